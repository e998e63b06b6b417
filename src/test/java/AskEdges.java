import java.util.List;
import java.util.function.Supplier;

/** Boundary cases of promises 11 to 15: about, at, told, slack, wires. */
final class AskEdges {
  private static final List<Supplier<GroundPlan>> LAID =
      List.of(Plans::fourPlaced, Plans::fourPaired, Plans::fourCut, Plans::fourTree);
  private static final int[] FAR = {-2, -8, 32, 64, Edge.LEAST_INT, Edge.MOST_INT};

  private final Edge edge;

  AskEdges(Edge edge) {
    this.edge = edge;
  }

  void run() {
    aboutKinds();
    aboutCover();
    aboutClash();
    aboutRefused();
    atAnswers();
    atRefused();
    toldByKind();
    toldRefused();
    slackRoom();
    slackRefused();
    wiresOfFew();
    wiresBoxes();
    wiresRefused();
  }

  private void aboutKinds() {
    edge.hold(11, "Of the LAYING: 0 KIND, 1 WIDE, 2 HIGH, 3 GROUND");
    for (int kind = 0; kind < 4; kind++) {
      edge.due("about(0)", kind, LAID.get(kind).get(), p -> p.about(0));
    }
    GroundPlan plan = Plans.fourPaired();
    plan.places();
    edge.due("about(0) behind places()", 0, plan, p -> p.about(0));
    plan.least(3);
    edge.due("about(0) behind least(3)", 3, plan, p -> p.about(0));
    plan.from();
    edge.due("about(0) behind from()", 1, plan, p -> p.about(0));
    plan.least(2);
    edge.due("about(0) behind least(2)", 2, plan, p -> p.about(0));
    plan.of(0);
    edge.due("about(0) behind of(0)", 1, plan, p -> p.about(0));
  }

  private void aboutCover() {
    edge.hold(11, "4 what of it no BLOCK covers (GROUND less all BLOCKS' own)");
    GroundPlan full = Plans.two(2, 2, 3, 0);
    edge.due("about(4), all covered", 0, full, p -> p.about(4));
    full.put(1, 4, 0, false);
    edge.due("about(4), one apart", 2, full, p -> p.about(4));
    full.put(1, 0, 0, false);
    edge.due("about(4), two on one another", 6 - 10, full, p -> p.about(4));
    GroundPlan turned = Plans.turning(5, 1, 1, 5);
    turned.pair(Kit.row(0, 1), Kit.row(0, 1), 1);
    edge.due("about(4), turned", 0, turned, p -> p.about(4));
  }

  private void clashDue(GroundPlan plan, int first, int second) {
    edge.due("about(5)", first == -1 ? 1 : 0, plan, p -> p.about(5));
    edge.due("about(6)", first, plan, p -> p.about(6));
    edge.due("about(7)", second, plan, p -> p.about(7));
  }

  private void aboutClash() {
    edge.hold(11, "6 and 7 the first two that do (least first one, then least second one; NONE)");
    GroundPlan plan = Plans.of(2, 2, 2, 2, 2, 2, 2, 2, 2, 2);
    plan.places();
    clashDue(plan, 0, 1);
    for (int b = 0; b < 5; b++) {
      plan.put(b, 2 * b, 0, false);
    }
    clashDue(plan, -1, -1);
    plan.put(4, 7, 0, false);
    clashDue(plan, 3, 4);
    plan.put(2, 3, 0, false);
    clashDue(plan, 1, 2);
    plan.put(4, 0, 1, false);
    clashDue(plan, 0, 4);
    plan.put(3, 1, 1, false);
    clashDue(plan, 0, 3);
    plan.put(0, 50, 50, false);
    clashDue(plan, 1, 2);
    plan.put(2, 60, 60, false);
    clashDue(plan, 1, 3);
    GroundPlan last = Plans.many(12, false);
    last.pair(Plans.UP, Plans.UP, 0);
    clashDue(last, -1, -1);
    last.places();
    last.put(11, 65, 1, false);
    clashDue(last, 10, 11);
    last.put(11, 66, 1, false);
    clashDue(last, -1, -1);
  }

  private void aboutRefused() {
    edge.hold(11, "NoSuchElementException: there is none, another what.");
    for (Supplier<GroundPlan> make : List.<Supplier<GroundPlan>>of(Plans::empty, Plans::four)) {
      for (int w = -1; w <= 8; w++) {
        int what = w;
        edge.due("about(" + w + ") of no laying", Edge.THROWS, make.get(), p -> p.about(what));
      }
      edge.refuses("about(0) of no laying", Edge.THROWS, make, p -> p.about(0));
    }
    for (Supplier<GroundPlan> make : LAID) {
      edge.refuses("about(-1)", Edge.THROWS, make, p -> p.about(-1));
      edge.refuses("about(8)", Edge.THROWS, make, p -> p.about(8));
      for (int bad : FAR) {
        edge.due("about(" + bad + ")", Edge.THROWS, make.get(), p -> p.about(bad));
      }
    }
  }

  private void atAnswers() {
    edge.hold(12, "Of a BLOCK in the LAYING: 0 x, 1 y, 2 width, 3 height, 4 whether it is TURNED.");
    int[][] want = {{1, 9, 2, 4, 1}, {4, 0, 3, 5, 0}, {8, 3, 2, 3, 0}, {4, 20, 6, 1, 0}};
    GroundPlan plan = Plans.fourPlaced();
    for (int b = 0; b < 4; b++) {
      for (int w = 0; w < 5; w++) {
        int block = b;
        int what = w;
        edge.due("at(" + b + ", " + w + ")", want[b][w], plan, p -> p.at(block, what));
      }
    }
  }

  private void atRefused() {
    edge.hold(12, "NoSuchElementException: no LAYING, BLOCK, what.");
    edge.refuses("at(0, 0) without a laying", Edge.THROWS, Plans::four, p -> p.at(0, 0));
    edge.refuses("at(0, 0) without blocks", Edge.THROWS, Plans::empty, p -> p.at(0, 0));
    for (Supplier<GroundPlan> make : LAID) {
      edge.refuses("at(-1, 0)", Edge.THROWS, make, p -> p.at(-1, 0));
      edge.refuses("at(4, 0)", Edge.THROWS, make, p -> p.at(4, 0));
      edge.refuses("at(0, -1)", Edge.THROWS, make, p -> p.at(0, -1));
      edge.refuses("at(3, 5)", Edge.THROWS, make, p -> p.at(3, 5));
      for (int bad : FAR) {
        edge.due("at(" + bad + ", 0)", Edge.THROWS, make.get(), p -> p.at(bad, 0));
        edge.due("at(0, " + bad + ")", Edge.THROWS, make.get(), p -> p.at(0, bad));
      }
    }
    GroundPlan twelve = Plans.many(12, false);
    twelve.of(0);
    edge.due("at(11, 0) of twelve", 66, twelve, p -> p.at(11, 0));
    edge.due("at(12, 0) of twelve", Edge.THROWS, twelve, p -> p.at(12, 0));
    twelve.less();
    twelve.places();
    edge.due("at(10, 0) of eleven", 0, twelve, p -> p.at(10, 0));
    edge.due("at(11, 0) of eleven", Edge.THROWS, twelve, p -> p.at(11, 0));
  }

  private void toldByKind() {
    edge.hold(13, "of a PAIR 0 ONE, 1 TWO; of CUTS 2, 3 its TOKENS; of a TREE 4 LEFT children");
    long no = Edge.THROWS;
    long[][] want = {
      {no, no, no, no, no, no, no},
      {Kit.row(1, 0, 2, 3), Kit.row(0, 1, 3, 2), no, no, no, no, no},
      {no, no, Kit.row(0, 1, 2, 12, 12, 3, 13), -1, no, no, no},
      {no, no, no, no, Kit.row(1, 15, 3), Kit.row(2), 0}
    };
    for (int kind = 0; kind < 4; kind++) {
      GroundPlan plan = LAID.get(kind).get();
      for (int w = 0; w < 7; w++) {
        int what = w;
        edge.due("told(" + w + ") of kind " + kind, want[kind][w], plan, p -> p.told(what));
      }
    }
  }

  private void toldRefused() {
    edge.hold(13, "NoSuchElementException: the LAYING is not of that KIND, another what.");
    for (int w = -1; w <= 7; w++) {
      int what = w;
      edge.due("told(" + w + ") without a laying", Edge.THROWS, Plans.four(), p -> p.told(what));
      edge.due("told(" + w + ") without blocks", Edge.THROWS, Plans.empty(), p -> p.told(what));
    }
    int[][] others = {{0, 1, 2, 3, 4, 5, 6}, {2, 3, 4, 5, 6}, {0, 1, 4, 5, 6}, {0, 1, 2, 3}};
    for (int kind = 0; kind < 4; kind++) {
      for (int what : others[kind]) {
        edge.refuses("told(" + what + ") of kind " + kind, Edge.THROWS, LAID.get(kind), p -> p.told(what));
      }
      edge.refuses("told(-1)", Edge.THROWS, LAID.get(kind), p -> p.told(-1));
      edge.refuses("told(7)", Edge.THROWS, LAID.get(kind), p -> p.told(7));
      for (int bad : FAR) {
        edge.due("told(" + bad + ")", Edge.THROWS, LAID.get(kind).get(), p -> p.told(bad));
      }
    }
    GroundPlan led = Plans.fourTree();
    led.from();
    edge.due("told(6) when the tree has become a pair", Edge.THROWS, led, p -> p.told(6));
    led.places();
    edge.due("told(0) when the pair has become places", Edge.THROWS, led, p -> p.told(0));
  }

  /** 0 and 1 in a row under 2, which is wider: both slide, 0 with 1 ahead of it. */
  private void slackRoom() {
    edge.hold(14, "with those that it must push, without its being WIDER, HIGHER");
    GroundPlan plan = Plans.of(2, 1, 3, 1, 9, 1);
    plan.pair(Kit.row(2, 0, 1), Kit.row(0, 1, 2), 0);
    int[][] want = {{4, 0}, {4, 0}, {0, 0}};
    slackDue(plan, want);
    plan.pair(Kit.row(0, 1, 2), Kit.row(0, 1, 2), 0);
    slackDue(plan, new int[][] {{0, 0}, {0, 0}, {0, 0}});
    GroundPlan high = Plans.of(1, 2, 1, 3, 1, 9);
    high.pair(Kit.row(1, 0, 2), Kit.row(0, 1, 2), 0);
    slackDue(high, new int[][] {{0, 4}, {0, 4}, {0, 0}});
    GroundPlan one = Plans.of(5, 7);
    one.pair(0, 0, 0);
    slackDue(one, new int[][] {{0, 0}});
    GroundPlan gap = Plans.of(5, 1, 2, 1, 1, 3, 4, 1);
    gap.pair(Kit.row(0, 1, 2, 3), Kit.row(1, 0, 2, 3), 0);
    slackDue(gap, new int[][] {{0, 1}, {3, 1}, {0, 0}, {0, 2}});
    GroundPlan turned = Plans.turning(2, 1, 9, 1);
    turned.pair(Kit.row(1, 0), Kit.row(0, 1), 1);
    slackDue(turned, new int[][] {{8, 0}, {0, 0}});
  }

  private void slackDue(GroundPlan plan, int[][] want) {
    for (int b = 0; b < want.length; b++) {
      for (int w = 0; w < 2; w++) {
        int block = b;
        int what = w;
        edge.due("slack(" + b + ", " + w + ")", want[b][w], plan, p -> p.slack(block, what));
      }
    }
  }

  private void slackRefused() {
    edge.hold(14, "NoSuchElementException: the LAYING is no PAIR, no such BLOCK, what.");
    for (Supplier<GroundPlan> make : List.<Supplier<GroundPlan>>of(
        Plans::empty, Plans::four, Plans::fourPlaced, Plans::fourCut, Plans::fourTree)) {
      edge.refuses("slack(0, 0) of no pair", Edge.THROWS, make, p -> p.slack(0, 0));
      edge.refuses("slack(3, 1) of no pair", Edge.THROWS, make, p -> p.slack(3, 1));
    }
    int[][] bad = {{-1, 0}, {4, 0}, {4, 1}, {0, -1}, {3, 2}, {-1, 2}, {12, 0}};
    for (int[] call : bad) {
      edge.refuses("slack(" + call[0] + ", " + call[1] + ")", Edge.THROWS, Plans::fourPaired,
          p -> p.slack(call[0], call[1]));
    }
    for (int far : FAR) {
      edge.due("slack(" + far + ", 0)", Edge.THROWS, Plans.fourPaired(), p -> p.slack(far, 0));
      edge.due("slack(0, " + far + ")", Edge.THROWS, Plans.fourPaired(), p -> p.slack(0, far));
    }
    GroundPlan twelve = Plans.many(12, false);
    twelve.of(0);
    edge.due("slack(11, 1) of twelve", 0, twelve, p -> p.slack(11, 1));
    edge.due("slack(12, 1) of twelve", Edge.THROWS, twelve, p -> p.slack(12, 1));
  }

  private void wiresOfFew() {
    edge.hold(15, "(0 of fewer than two)");
    GroundPlan plan = Plans.of(3, 2, 2, 4, 1, 1);
    plan.pair(Kit.row(0, 1, 2), Kit.row(0, 1, 2), 0);
    edge.due("wires() of no nets", 0, plan, p -> p.wires());
    plan.net(4, 0);
    edge.due("wires() of a net of none", 0, plan, p -> p.wires());
    for (int b = 0; b < 3; b++) {
      plan.net(4, 1 << b);
      edge.due("wires() of a net of one", 0, plan, p -> p.wires());
    }
    plan.net(4, 3);
    edge.due("wires() of a net of two", 5 + 2, plan, p -> p.wires());
    plan.net(4, 8 | 2);
    edge.due("wires() of a net of one and no block", 0, plan, p -> p.wires());
    GroundPlan one = Plans.of(200, 200);
    one.net(0, 1);
    one.places();
    one.put(0, 10000, 10000, false);
    edge.due("wires() of one block alone", 0, one, p -> p.wires());
  }

  private void wiresBoxes() {
    edge.hold(15, "each has twice the half way round the least box about its BLOCKS' middles");
    GroundPlan plan = Plans.of(3, 2, 1, 1, 3, 2);
    plan.net(0, 7);
    plan.places();
    plan.put(1, 1, 7, false);
    edge.due("wires(), the highest between", 13, plan, p -> p.wires());
    plan.put(1, 1, 0, false);
    edge.due("wires(), half a step apart", 1, plan, p -> p.wires());
    plan.put(1, 2, 0, false);
    edge.due("wires(), half a step and a whole one", 3, plan, p -> p.wires());
    plan.net(19, 7);
    edge.due("wires(), the same net twice", 6, plan, p -> p.wires());
    plan.net(7, 5);
    edge.due("wires(), a net of one middle", 6, plan, p -> p.wires());
    GroundPlan turned = Plans.turning(3, 1, 1, 1);
    turned.net(0, 3);
    turned.pair(Kit.row(0, 1), Kit.row(0, 1), 0);
    edge.due("wires()", 4, turned, p -> p.wires());
    turned.pair(Kit.row(0, 1), Kit.row(0, 1), 1);
    edge.due("wires() of a turned one", 2 + 2, turned, p -> p.wires());
    GroundPlan far = Plans.of(1, 1, 200, 200);
    far.places();
    far.put(1, 10000, 10000, false);
    for (int i = 0; i < 20; i++) {
      far.net(i, 3);
    }
    edge.due("wires(), the longest", 20 * 2 * (20200 - 1), far, p -> p.wires());
  }

  private void wiresRefused() {
    edge.hold(15, "NoSuchElementException: there is no LAYING.");
    edge.refuses("wires() without a laying", Edge.THROWS, Plans::four, p -> p.wires());
    edge.refuses("wires() without blocks", Edge.THROWS, Plans::empty, p -> p.wires());
    for (Supplier<GroundPlan> make : LAID) {
      GroundPlan plan = make.get();
      edge.yes("wires() of a laying", plan.wires() > 0);
      plan.less();
      edge.due("wires() of an ended laying", Edge.THROWS, plan, p -> p.wires());
    }
  }
}
