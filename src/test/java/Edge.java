import java.util.ArrayList;
import java.util.List;
import java.util.NoSuchElementException;
import java.util.TreeMap;
import java.util.function.Supplier;

/**
 * Holds the class to the document's sentences that name a boundary case. A refused call is held to
 * its answer and, by twins of which only one was asked it, to changing nothing.
 */
final class Edge {
  static final int LEAST_INT = Integer.MIN_VALUE;
  static final int MOST_INT = Integer.MAX_VALUE;
  static final long THROWS = Kit.THROWN;
  static final long NO = 0;
  static final long YES = 1;
  static final long NONE = -1;

  private static final int MOST_CALLS = 512;

  /** A call on a plan whose answer is a number, or a boolean as 1 or 0. */
  interface Ask {
    long of(GroundPlan plan);
  }

  private record Later(String name, Ask ask) {}

  /** What may come behind a refused call; each would tell another answer of a state that changed. */
  private static final List<Later> LATER = List.of(
      new Later("nothing", plan -> 0),
      new Later("less()", plan -> plan.less()),
      new Later("block(7, 3, true), places()", plan -> plan.block(7, 3, true) + 100 * one(plan.places())),
      new Later("net(0, 3)", plan -> plan.net(0, 3)),
      new Later("places()", plan -> one(plan.places())),
      new Later("put(0, 5, 60, false)", plan -> one(plan.put(0, 5, 60, false))),
      new Later("put(0, 60, 5, true)", plan -> one(plan.put(0, 60, 5, true))),
      new Later("from()", plan -> one(plan.from())),
      new Later("normal()", plan -> plan.normal()),
      new Later("best(0)", plan -> plan.best(0)),
      new Later("swap(0, 0, 1)", plan -> one(plan.swap(0, 0, 1))),
      new Later("swap(1, 1, 0)", plan -> one(plan.swap(1, 1, 0))),
      new Later("of(1)", plan -> one(plan.of(1))),
      new Later("least(1)", plan -> plan.least(1)),
      new Later("least(2)", plan -> plan.least(2)),
      new Later("least(3)", plan -> plan.least(3)));

  private final Kit kit;
  private final Doc doc;
  private final TreeMap<Integer, List<String>> held = new TreeMap<>();

  Edge(Kit kit, Doc doc) {
    this.kit = kit;
    this.doc = doc;
  }

  static long one(boolean answer) {
    return answer ? YES : NO;
  }

  /** The answers from now on hold the class to these words of a promise; 0: of what stands ahead. */
  void hold(int promise, String words) {
    held.computeIfAbsent(promise, p -> new ArrayList<>()).add(words);
    kit.hold((promise == 0 ? "Terms" : "promise " + promise) + " '" + words + "'");
    if (doc != null) {
      kit.yes("the document's saying so", doc.says(promise, words));
    }
  }

  /** Every sentence of the document that names a boundary case was held by some test. */
  void allHeld() {
    if (doc == null) {
      System.out.println("the document was not found: that all its sentences are held was not looked at");
      return;
    }
    kit.hold("all sentences");
    kit.yes("the document has all promises", doc.isWhole());
    for (int promise = 0; promise <= Doc.PROMISES && doc.isWhole(); promise++) {
      List<String> words = held.getOrDefault(promise, List.of());
      for (String sentence : doc.edges(promise)) {
        kit.yes("a test of promise " + promise + " '" + sentence + "'", words.stream().anyMatch(sentence::contains));
      }
    }
  }

  void due(String call, long want, GroundPlan plan, Ask ask) {
    kit.due(call, want, answer(plan, ask));
  }

  void yes(String call, boolean got) {
    kit.yes(call, got);
  }

  void no(String call, boolean got) {
    kit.no(call, got);
  }

  /** The call is answered so on a plan of that make, and is as if it had not been made. */
  void refuses(String call, long want, Supplier<GroundPlan> make, Ask ask) {
    for (Later later : LATER) {
      GroundPlan asked = make.get();
      GroundPlan twin = make.get();
      kit.due(call, want, answer(asked, ask));
      kit.due(call + ", then " + later.name, answer(twin, later.ask), answer(asked, later.ask));
      same(call + ", then " + later.name + ", then ", asked, twin);
    }
  }

  /** Both plans answer every question alike. */
  void same(String call, GroundPlan asked, GroundPlan twin) {
    List<Later> questions = questions();
    if (questions.size() > MOST_CALLS / 2) {
      throw new IllegalStateException("too many questions for one object");
    }
    for (Later question : questions) {
      kit.due(call + question.name, answer(twin, question.ask), answer(asked, question.ask));
    }
  }

  void lies(GroundPlan plan, int block, int x, int y) {
    due("at(" + block + ", 0)", x, plan, p -> p.at(block, 0));
    due("at(" + block + ", 1)", y, plan, p -> p.at(block, 1));
  }

  void sized(GroundPlan plan, int block, int width, int height) {
    due("at(" + block + ", 2)", width, plan, p -> p.at(block, 2));
    due("at(" + block + ", 3)", height, plan, p -> p.at(block, 3));
  }

  void turned(GroundPlan plan, int size, int bits) {
    for (int b = 0; b < size; b++) {
      int block = b;
      due("at(" + b + ", 4)", bits >> b & 1, plan, p -> p.at(block, 4));
    }
  }

  void noLaying(GroundPlan plan) {
    for (Ask ask : layingAsks()) {
      kit.due("a question about no laying", THROWS, answer(plan, ask));
    }
    kit.no("from() of no laying", plan.from());
    kit.no("swap() of no laying", plan.swap(0, 0, 0));
  }

  private static List<Ask> layingAsks() {
    List<Ask> asks = new ArrayList<>();
    for (int i = 0; i < 8; i++) {
      int what = i;
      asks.add(plan -> plan.about(what));
      asks.add(plan -> plan.told(what));
      asks.add(plan -> plan.at(0, what));
      asks.add(plan -> plan.slack(0, what));
      asks.add(plan -> plan.shape(0, what));
    }
    asks.add(plan -> plan.wires());
    asks.add(plan -> one(plan.isCut()));
    asks.add(plan -> plan.normal());
    asks.add(plan -> plan.curve());
    asks.add(plan -> plan.best(0));
    asks.add(plan -> plan.rank());
    return asks;
  }

  private static long answer(GroundPlan plan, Ask ask) {
    try {
      return ask.of(plan);
    } catch (NoSuchElementException e) {
      return THROWS;
    }
  }

  /** All questions that change nothing, the same for any plan. */
  private static List<Later> questions() {
    List<Later> all = new ArrayList<>();
    for (int b = 0; b < 12; b++) {
      int block = b;
      addEach(all, "side(" + b + ", ", 3, what -> plan -> plan.side(block, what));
      addEach(all, "at(" + b + ", ", 5, what -> plan -> plan.at(block, what));
      addEach(all, "slack(" + b + ", ", 2, what -> plan -> plan.slack(block, what));
      addEach(all, "shape(" + b + ", ", 2, what -> plan -> plan.shape(block, what));
    }
    addEach(all, "about(", 8, what -> plan -> plan.about(what));
    addEach(all, "told(", 7, what -> plan -> plan.told(what));
    all.add(new Later("wires()", plan -> plan.wires()));
    all.add(new Later("isCut()", plan -> one(plan.isCut())));
    all.add(new Later("curve()", plan -> plan.curve()));
    all.add(new Later("rank()", plan -> plan.rank()));
    return all;
  }

  private interface ByWhat {
    Ask ask(int what);
  }

  private static void addEach(List<Later> all, String begin, int whats, ByWhat by) {
    for (int what = 0; what < whats; what++) {
      all.add(new Later(begin + what + ")", by.ask(what)));
    }
  }
}
