import java.io.IOException;

/** The document's boundary cases, sentence by sentence; each complaint names promise and sentence. */
public final class EdgeTest {
  private EdgeTest() {}

  public static void main(String[] args) throws IOException {
    Kit kit = new Kit("EdgeTest");
    Edge edge = new Edge(kit, Doc.read());
    new TermsEdges(edge).run();
    new BlockEdges(edge).run();
    new LayEdges(edge).run();
    new AskEdges(edge).run();
    new MoveEdges(edge).run();
    new SearchEdges(edge).run();
    edge.allHeld();
    kit.finish();
  }
}
