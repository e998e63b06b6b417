import java.util.List;
import java.util.function.Supplier;

/** Boundary cases of promises 1 to 5: a new object, block, less, side, net. */
final class BlockEdges {
  private static final int[] BAD_SIDES = {0, 201, -1, -200, 256, Edge.LEAST_INT, Edge.MOST_INT};

  private final Edge edge;

  BlockEdges(Edge edge) {
    this.edge = edge;
  }

  void run() {
    nothingAtFirst();
    blockNumbers();
    twelveBlocks();
    goodSides();
    badSides();
    lessToNone();
    netsWithoutIt();
    lessOfNone();
    sideWhats();
    sideBlocks();
    noBlockAnywhere();
    netOthers();
    netNumbers();
    netTold();
  }

  private void nothingAtFirst() {
    edge.hold(1, "No BLOCKS, no NETS.");
    GroundPlan other = Plans.fourPaired();
    GroundPlan plan = new GroundPlan();
    edge.due("side(0, 0)", Edge.THROWS, plan, p -> p.side(0, 0));
    edge.no("places()", plan.places());
    edge.due("less()", Edge.NONE, plan, p -> p.less());
    edge.due("block(9, 9, false)", 0, plan, p -> p.block(9, 9, false));
    edge.due("block(1, 1, false)", 1, plan, p -> p.block(1, 1, false));
    edge.yes("places()", plan.places());
    edge.yes("put()", plan.put(1, 500, 500, false));
    edge.due("wires()", 0, plan, p -> p.wires());
    edge.same("another object is made and used, then ", other, Plans.fourPaired());
  }

  private void blockNumbers() {
    edge.hold(2, "A BLOCK more: its number.");
    GroundPlan plan = Plans.empty();
    for (int i = 0; i < 12; i++) {
      edge.due("block " + i, i, plan, p -> p.block(3, 4, false));
    }
  }

  private void twelveBlocks() {
    edge.hold(2, "NONE: there are 12");
    edge.due("the twelfth block", 11, Plans.many(11, true), p -> p.block(200, 200, true));
    edge.refuses("the thirteenth block", Edge.NONE, TwelveLaid.PLACED, p -> p.block(1, 1, true));
    edge.refuses("the thirteenth block", Edge.NONE, TwelveLaid.PAIRED, p -> p.block(200, 200, false));
    edge.refuses("the thirteenth block", Edge.NONE, TwelveLaid.CUT, p -> p.block(1, 1, true));
    edge.refuses("a thirteenth block of bad sides", Edge.NONE, TwelveLaid.PAIRED, p -> p.block(0, 0, true));
    GroundPlan plan = Plans.many(12, false);
    plan.block(5, 5, false);
    plan.less();
    edge.due("a twelfth block anew", 11, plan, p -> p.block(5, 6, true));
    edge.due("its height", 6, plan, p -> p.side(11, 1));
    edge.due("a thirteenth block anew", Edge.NONE, plan, p -> p.block(5, 5, false));
  }

  /** Twelve blocks, laid in some way. */
  private static final class TwelveLaid {
    static final Supplier<GroundPlan> PLACED = () -> {
      GroundPlan plan = Plans.many(12, true);
      plan.net(3, -1);
      plan.places();
      plan.put(11, 40, 50, true);
      return plan;
    };
    static final Supplier<GroundPlan> PAIRED = () -> {
      GroundPlan plan = Plans.many(12, true);
      plan.pair(Plans.UP, Plans.DOWN, 0xFFF);
      return plan;
    };
    static final Supplier<GroundPlan> CUT = () -> {
      GroundPlan plan = Plans.many(12, true);
      int[] tokens = TermsEdges.rowOf(12);
      plan.cuts(TermsEdges.lowTokens(tokens), TermsEdges.highTokens(tokens), 0x555);
      return plan;
    };
  }

  private void goodSides() {
    edge.hold(2, "or a side is not 1 to 200");
    int[][] good = {{1, 1}, {1, 200}, {200, 1}, {200, 200}, {2, 199}, {199, 2}};
    for (int[] sides : good) {
      GroundPlan plan = Plans.empty();
      edge.due("block(" + sides[0] + ", " + sides[1] + ", true)", 0, plan, p -> p.block(sides[0], sides[1], true));
      edge.due("side(0, 0)", sides[0], plan, p -> p.side(0, 0));
      edge.due("side(0, 1)", sides[1], plan, p -> p.side(0, 1));
    }
  }

  private void badSides() {
    List<Supplier<GroundPlan>> makes = List.of(Plans::empty, Plans::four, Plans::fourPlaced, Plans::fourCut);
    for (Supplier<GroundPlan> make : makes) {
      for (int bad : BAD_SIDES) {
        edge.refuses("block(" + bad + ", 1, true)", Edge.NONE, make, p -> p.block(bad, 1, true));
        edge.refuses("block(200, " + bad + ", false)", Edge.NONE, make, p -> p.block(200, bad, false));
      }
    }
    edge.due("block(0, 201, true)", Edge.NONE, Plans.empty(), p -> p.block(0, 201, true));
  }

  private void lessToNone() {
    edge.hold(3, "how many are left");
    GroundPlan plan = Plans.many(12, true);
    for (int left = 11; left >= 0; left--) {
      int gone = left;
      edge.due("less()", left, plan, p -> p.less());
      edge.due("side of the gone one", Edge.THROWS, plan, p -> p.side(gone, 0));
      if (left > 0) {
        edge.due("side of the last one left", left, plan, p -> p.side(gone - 1, 0));
      }
    }
    edge.due("less()", Edge.NONE, plan, p -> p.less());
    edge.hold(3, "The latest BLOCK goes");
    GroundPlan again = Plans.turning(3, 2, 4, 4);
    again.less();
    edge.due("the next block has its number", 1, again, p -> p.block(5, 6, false));
    edge.due("side(1, 0)", 5, again, p -> p.side(1, 0));
    edge.due("side(1, 1)", 6, again, p -> p.side(1, 1));
    edge.due("side(1, 2)", 0, again, p -> p.side(1, 2));
    edge.due("side(0, 2)", 1, again, p -> p.side(0, 2));
    GroundPlan stiff = Plans.four();
    stiff.less();
    for (int b = 0; b < 3; b++) {
      int block = b;
      edge.due("side(" + b + ", 0), the others stay", new int[] {4, 3, 2}[b], stiff, p -> p.side(block, 0));
      edge.due("side(" + b + ", 1), the others stay", new int[] {2, 5, 3}[b], stiff, p -> p.side(block, 1));
      edge.due("side(" + b + ", 2), the others stay", new int[] {1, 0, 1}[b], stiff, p -> p.side(block, 2));
    }
  }

  /** The net of 0, 1 and 2 joins 0 and 1 when 2 is gone, also when there is a 2 again. */
  private void netsWithoutIt() {
    edge.hold(3, "(NETS without it)");
    for (int net : new int[] {0, 1, 18, 19}) {
      GroundPlan plan = Plans.of(2, 2, 2, 2, 2, 2);
      plan.net(net, 7);
      plan.less();
      plan.block(2, 2, false);
      plan.places();
      plan.put(1, 10, 0, false);
      plan.put(2, 1000, 1000, false);
      edge.due("wires() of net " + net, 20, plan, p -> p.wires());
      plan.less();
      plan.less();
      plan.block(2, 2, false);
      plan.places();
      plan.put(1, 10, 0, false);
      edge.due("wires() of net " + net + " of one alone", 0, plan, p -> p.wires());
    }
    GroundPlan all = Plans.of(2, 2, 2, 2);
    all.net(5, 3);
    all.less();
    all.less();
    all.block(2, 2, false);
    all.block(2, 2, false);
    all.places();
    all.put(1, 10, 0, false);
    edge.due("wires() when all were gone", 0, all, p -> p.wires());
  }

  private void lessOfNone() {
    edge.hold(3, "NONE: there is none.");
    edge.due("less() of one", 0, Plans.of(1, 1), p -> p.less());
    edge.refuses("less() of none", Edge.NONE, Plans::empty, p -> p.less());
    Supplier<GroundPlan> gone = () -> {
      GroundPlan plan = Plans.of(1, 1);
      plan.less();
      return plan;
    };
    edge.refuses("less() when all are gone", Edge.NONE, gone, p -> p.less());
    GroundPlan plan = Plans.empty();
    plan.less();
    plan.less();
    edge.due("block() behind it", 0, plan, p -> p.block(1, 1, false));
    edge.due("less()", 0, plan, p -> p.less());
  }

  private void sideWhats() {
    edge.hold(4, "Of a BLOCK: 0 width, 1 height (not TURNED), 2 whether it may be TURNED (1).");
    GroundPlan plan = Plans.turning(4, 2);
    plan.block(3, 3, false);
    plan.pair(Kit.row(0, 1), Kit.row(0, 1), 3);
    int[][] want = {{4, 2, 1}, {3, 3, 0}};
    for (int b = 0; b < 2; b++) {
      for (int w = 0; w < 3; w++) {
        int block = b;
        int what = w;
        edge.due("side(" + b + ", " + w + ")", want[b][w], plan, p -> p.side(block, what));
      }
    }
    edge.hold(4, "NoSuchElementException: no such BLOCK (as everywhere), what.");
    for (int bad : new int[] {-1, 3, 4, Edge.LEAST_INT, Edge.MOST_INT}) {
      edge.refuses("side(0, " + bad + ")", Edge.THROWS, Plans::fourPaired, p -> p.side(0, bad));
      edge.refuses("side(4, " + bad + ")", Edge.THROWS, Plans::fourPaired, p -> p.side(4, bad));
    }
  }

  private void sideBlocks() {
    edge.hold(4, "no such BLOCK (as everywhere)");
    for (int n = 0; n <= 12; n++) {
      int size = n;
      GroundPlan plan = Plans.many(n, false);
      for (int bad : new int[] {-1, n, n + 1, 12, 32, 31, n - 32, n + 32, Edge.LEAST_INT, Edge.MOST_INT}) {
        if (bad < 0 || bad >= n) {
          edge.due("side(" + bad + ", 0) of " + n, Edge.THROWS, plan, p -> p.side(bad, 0));
        }
      }
      if (n > 0) {
        edge.due("side(0, 0) of " + n, 1, plan, p -> p.side(0, 0));
        edge.due("side of the last of " + n, n, plan, p -> p.side(size - 1, 0));
      }
    }
  }

  /** Every call that is told a block. */
  private void noBlockAnywhere() {
    for (int bad : new int[] {-1, 4, 11, 12, 32, Edge.LEAST_INT, Edge.MOST_INT}) {
      edge.refuses("side(" + bad + ", 2)", Edge.THROWS, Plans::fourPlaced, p -> p.side(bad, 2));
      edge.refuses("put(" + bad + ", 0, 0, false)", Edge.THROWS, Plans::fourPlaced,
          p -> Edge.one(p.put(bad, 0, 0, false)));
      edge.refuses("at(" + bad + ", 0)", Edge.THROWS, Plans::fourPlaced, p -> p.at(bad, 0));
      edge.refuses("slack(" + bad + ", 0)", Edge.THROWS, Plans::fourPaired, p -> p.slack(bad, 0));
    }
  }

  private void netOthers() {
    edge.hold(5, "(others are left out): how many");
    for (int n = 0; n <= 12; n++) {
      int size = n;
      GroundPlan plan = Plans.many(n, false);
      edge.due("net(0, -1) of " + n, n, plan, p -> p.net(0, -1));
      edge.due("net(1, the first that is none)", 0, plan, p -> p.net(1, 1 << size));
      edge.due("net(2, all that are none)", 0, plan, p -> p.net(2, -1 << size));
      edge.due("net(3, 0)", 0, plan, p -> p.net(3, 0));
      edge.due("net(4, the least int)", 0, plan, p -> p.net(4, Edge.LEAST_INT));
      if (n > 0) {
        edge.due("net(5, the last one)", 1, plan, p -> p.net(5, 1 << size - 1));
        edge.due("net(6, the last one and the next)", 1, plan, p -> p.net(6, 3 << size - 1));
      }
    }
    GroundPlan later = Plans.of(2, 2, 2, 2);
    later.net(0, 7);
    later.net(1, 4);
    later.block(2, 2, false);
    later.places();
    later.put(1, 10, 0, false);
    later.put(2, 0, 1000, false);
    edge.due("wires(), a later block is not joined", 20, later, p -> p.wires());
    GroundPlan before = Plans.empty();
    before.net(0, -1);
    before.block(1, 1, false);
    before.block(1, 1, false);
    before.places();
    before.put(1, 10, 0, false);
    edge.due("wires(), told before all blocks", 0, before, p -> p.wires());
  }

  private void netNumbers() {
    edge.hold(5, "NoSuchElementException: no such NET.");
    GroundPlan plan = Plans.of(2, 2, 4, 4);
    plan.pair(Kit.row(0, 1), Kit.row(0, 1), 0);
    for (int i = 0; i < 20; i++) {
      int net = i;
      edge.due("net(" + i + ", 3)", 2, plan, p -> p.net(net, 3));
      edge.due("wires()", (4 + 2 + 2) * (i + 1), plan, p -> p.wires());
    }
    for (int bad : new int[] {-1, 20, 21, 32, -20, Edge.LEAST_INT, Edge.MOST_INT}) {
      edge.refuses("net(" + bad + ", 3)", Edge.THROWS, Plans::fourPaired, p -> p.net(bad, 3));
      edge.refuses("net(" + bad + ", 0)", Edge.THROWS, Plans::empty, p -> p.net(bad, 0));
    }
  }

  private void netTold() {
    edge.hold(5, "A NET joins the BLOCKS whose bits are told");
    GroundPlan plan = Plans.of(2, 2, 2, 2, 2, 2);
    plan.pair(Kit.row(0, 1, 2), Kit.row(0, 1, 2), 0);
    plan.net(0, 7);
    edge.due("wires() of all", 8, plan, p -> p.wires());
    plan.net(0, 6);
    edge.due("wires(), told anew", 4, plan, p -> p.wires());
    plan.net(0, 0);
    edge.due("wires(), told of none", 0, plan, p -> p.wires());
    edge.due("about(0), the laying stays", 1, plan, p -> p.about(0));
  }
}
