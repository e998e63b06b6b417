import java.util.List;
import java.util.function.Supplier;

/** Boundary cases of promises 23 to 26: least, count, rank, of. */
final class SearchEdges {
  private static final int BESIDE = Plans.BESIDE;
  private static final int ABOVE = Plans.ABOVE;
  private static final int[] BAD_KINDS = {0, 4, -1, 5, Edge.LEAST_INT, Edge.MOST_INT};
  private static final List<Supplier<GroundPlan>> EVERY =
      List.of(Plans::four, Plans::fourPlaced, Plans::fourPaired, Plans::fourCut, Plans::fourTree);

  private final Edge edge;

  SearchEdges(Edge edge) {
    this.edge = edge;
  }

  void run() {
    leastOfOne();
    leastFirstPair();
    leastFirstCuts();
    leastFirstTree();
    leastBehind();
    leastTies();
    leastTurned();
    leastSizes();
    leastSixty();
    leastUncounted();
    leastKinds();
    leastAnew();
    countEnds();
    countKinds();
    rankEnds();
    rankRefused();
    ofEnds();
    ofTurned();
    ofRefused();
  }

  private void leastOfOne() {
    edge.hold(23, "that GROUND; the LAYING becomes the first such one");
    for (int k = 1; k <= 3; k++) {
      int kind = k;
      GroundPlan plan = Plans.turning(200, 199);
      edge.due("least(" + k + ")", 39800, plan, p -> p.least(kind));
      edge.due("about(0)", k, plan, p -> p.about(0));
      edge.due("about(3)", 39800, plan, p -> p.about(3));
      edge.turned(plan, 1, 0);
    }
  }

  private void leastDue(GroundPlan plan, int kind, int ground, long first, long second) {
    int what = 2 * kind - 2;
    edge.due("least(" + kind + ")", ground, plan, p -> p.least(kind));
    edge.due("about(0)", kind, plan, p -> p.about(0));
    edge.due("about(3)", ground, plan, p -> p.about(3));
    edge.due("told(" + what + ")", first, plan, p -> p.told(what));
    edge.due("told(" + (what + 1) + ")", second, plan, p -> p.told(what + 1));
  }

  /** Of two blocks the orders alike lay a row, ONE rising and TWO falling a tower. */
  private void leastFirstPair() {
    edge.hold(23, "by ONE (as a row of numbers, lesser first), then TWO, then the number of TURNED bits");
    long up = Kit.row(0, 1);
    leastDue(Plans.of(1, 2, 1, 2), 1, 4, up, up);
    leastDue(Plans.of(2, 1, 2, 1), 1, 4, up, up);
    leastDue(Plans.of(2, 1, 2, 2), 1, 6, up, Kit.row(1, 0));
    leastDue(Plans.of(1, 1, 1, 1, 1, 1, 1, 1), 1, 4, Kit.row(0, 1, 2, 3), Kit.row(0, 1, 2, 3));
    leastDue(Plans.of(1, 4, 3, 1, 1, 3, 2, 3), 1, 16, Kit.row(0, 1, 2, 3), Kit.row(0, 2, 3, 1));
  }

  private void leastFirstCuts() {
    edge.hold(23, "of CUTS by the row of TOKENS, then TURNED");
    leastDue(Plans.of(1, 2, 1, 2), 2, 4, Kit.row(0, 1, BESIDE), -1);
    leastDue(Plans.of(2, 1, 2, 1), 2, 4, Kit.row(0, 1, BESIDE), -1);
    leastDue(Plans.of(2, 1, 2, 2), 2, 6, Kit.row(0, 1, ABOVE), -1);
    long square = Kit.row(0, 1, BESIDE, 2, 3, BESIDE, ABOVE);
    leastDue(Plans.of(1, 1, 1, 1, 1, 1, 1, 1), 2, 4, square, -1);
    edge.hold(23, "CUTS (2: NORMAL ones)");
    leastDue(Plans.of(1, 9, 1, 9, 1, 9), 2, 27, Kit.row(0, 1, BESIDE, 2, BESIDE), -1);
  }

  private void leastFirstTree() {
    edge.hold(23, "by the children of the first, the second ..: both, LEFT alone, RIGHT alone, none; then TURNED");
    leastDue(Plans.of(1, 2, 1, 2), 3, 4, Kit.row(1), -1);
    leastDue(Plans.of(2, 1, 2, 1), 3, 4, Kit.row(1), -1);
    leastDue(Plans.of(2, 1, 2, 2), 3, 6, -1, Kit.row(1));
    leastDue(Plans.of(1, 1, 1, 1, 1, 1, 1, 1), 3, 4, Kit.row(1), Kit.row(3, 2));
    GroundPlan corner = Plans.of(1, 1, 3, 3);
    leastDue(corner, 3, 12, Kit.row(1), -1);
    edge.due("told(6)", 0, corner, p -> p.told(6));
  }

  /** The first ways of telling do not do: 1 under the others, 1 beside them, 1 under 0, a row, a tower. */
  private void leastBehind() {
    edge.hold(23, "by the row of BLOCKS as they are laid");
    int[] under = {2, 3, 5, 1, 3, 3};
    leastDue(Plans.of(under), 1, 20, Kit.row(0, 2, 1), Kit.row(1, 0, 2));
    leastDue(Plans.of(under), 2, 20, Kit.row(0, 2, BESIDE, 1, ABOVE), -1);
    leastDue(Plans.of(under), 3, 20, Kit.row(2), Kit.row(1));
    int[] aside = {2, 1, 3, 3, 2, 2};
    leastDue(Plans.of(aside), 1, 15, Kit.row(0, 2, 1), Kit.row(2, 0, 1));
    leastDue(Plans.of(aside), 2, 15, Kit.row(0, 2, ABOVE, 1, BESIDE), -1);
    leastDue(Plans.of(aside), 3, 15, Kit.row(1), Kit.row(2));
    int[] stacked = {2, 1, 2, 2, 1, 3, 4, 3};
    leastDue(Plans.of(stacked), 1, 21, Kit.row(0, 1, 2, 3), Kit.row(1, 0, 2, 3));
    leastDue(Plans.of(stacked), 2, 21, Kit.row(0, 1, ABOVE, 2, BESIDE, 3, BESIDE), -1);
    leastDue(Plans.of(stacked), 3, 21, Kit.row(15, 2, 3), Kit.row(1));
    int[] row = {1, 9, 2, 9, 4, 9, 8, 9};
    leastDue(Plans.of(row), 1, 135, Kit.row(0, 1, 2, 3), Kit.row(0, 1, 2, 3));
    leastDue(Plans.of(row), 2, 135, Kit.row(0, 1, BESIDE, 2, BESIDE, 3, BESIDE), -1);
    leastDue(Plans.of(row), 3, 135, Kit.row(1, 2, 3), -1);
    int[] tower = {9, 1, 9, 2, 9, 4, 9, 8};
    leastDue(Plans.of(tower), 1, 135, Kit.row(0, 1, 2, 3), Kit.row(3, 2, 1, 0));
    leastDue(Plans.of(tower), 2, 135, Kit.row(0, 1, ABOVE, 2, ABOVE, 3, ABOVE), -1);
    leastDue(Plans.of(tower), 3, 135, -1, Kit.row(1, 2, 3));
  }

  /** Grounds that blocks do not fill: other ways that need as much come later. */
  private void leastTies() {
    edge.hold(23, "the LAYING becomes the first such one");
    int[] loose = {3, 2, 2, 4};
    leastDue(Plans.of(loose), 1, 18, Kit.row(0, 1), Kit.row(1, 0));
    leastDue(Plans.of(loose), 2, 18, Kit.row(0, 1, ABOVE), -1);
    leastDue(Plans.of(loose), 3, 18, -1, Kit.row(1));
    int[] row = {2, 5, 3, 6, 4, 7};
    leastDue(Plans.of(row), 1, 63, Kit.row(0, 1, 2), Kit.row(0, 1, 2));
    leastDue(Plans.of(row), 2, 63, Kit.row(0, 1, BESIDE, 2, BESIDE), -1);
    leastDue(Plans.of(row), 3, 63, Kit.row(1, 2), -1);
  }

  private void leastTurned() {
    edge.hold(23, "all ways to TURN: that GROUND");
    for (int k = 1; k <= 3; k++) {
      GroundPlan all = Plans.turning(20, 1, 20, 2, 20, 4, 20, 8);
      int kind = k;
      edge.due("least(" + k + "), all turned", 300, all, p -> p.least(kind));
      edge.turned(all, 4, 15);
      edge.lies(all, 3, 7, 0);
      GroundPlan second = Plans.turning(3, 3, 3, 1);
      edge.due("least(" + k + ") of a square and a bar", 12, second, p -> p.least(kind));
      edge.turned(second, 2, 2);
      edge.lies(second, 1, 3, 0);
    }
    leastOfSome();
  }

  private void leastOfSome() {
    for (int k = 1; k <= 3; k++) {
      int kind = k;
      GroundPlan either = Plans.turning(1, 2, 2, 1);
      edge.due("least(" + k + "), either one turned", 4, either, p -> p.least(kind));
      edge.turned(either, 2, 1);
      GroundPlan stiff = Plans.of(1, 2);
      stiff.block(2, 1, true);
      edge.due("least(" + k + "), the second may turn alone", 4, stiff, p -> p.least(kind));
      edge.turned(stiff, 2, 2);
      GroundPlan none = Plans.of(1, 2, 2, 1);
      edge.due("least(" + k + "), none may turn", 6, none, p -> p.least(kind));
      GroundPlan squares = Plans.turning(3, 3, 3, 3, 3, 3, 3, 3);
      edge.due("least(" + k + ") of squares", 36, squares, p -> p.least(kind));
      edge.turned(squares, 4, 0);
    }
  }

  private static GroundPlan ones(int n) {
    GroundPlan plan = new GroundPlan();
    for (int b = 0; b < n; b++) {
      plan.block(1, 1, false);
    }
    return plan;
  }

  private void leastSizes() {
    edge.hold(23, "NONE: there are none, or more than 4.");
    for (int k = 1; k <= 3; k++) {
      int kind = k;
      for (int n = 0; n <= 12; n++) {
        GroundPlan plan = ones(n);
        edge.due("least(" + k + ") of " + n, n == 0 || n > 4 ? -1 : n, plan, p -> p.least(kind));
        if (n == 0 || n > 4) {
          edge.noLaying(plan);
        }
      }
      edge.refuses("least(" + k + ") of none", Edge.NONE, Plans::empty, p -> p.least(kind));
      edge.refuses("least(" + k + ") of five", Edge.NONE, SearchEdges::fiveCut, p -> p.least(kind));
      edge.refuses("least(" + k + ") of five", Edge.NONE, SearchEdges::fivePaired, p -> p.least(kind));
    }
    GroundPlan plan = ones(5);
    plan.less();
    edge.due("least(2) when one of five is gone", 4, plan, p -> p.least(2));
    plan.block(1, 1, false);
    edge.due("least(2) when there are five again", Edge.NONE, plan, p -> p.least(2));
  }

  private static GroundPlan fiveCut() {
    GroundPlan plan = Plans.four();
    plan.block(1, 7, true);
    int[] tokens = TermsEdges.rowOf(5);
    plan.cuts(TermsEdges.lowTokens(tokens), 0, 17);
    return plan;
  }

  private static GroundPlan fivePaired() {
    GroundPlan plan = Plans.four();
    plan.block(1, 7, true);
    plan.pair(Kit.row(4, 3, 2, 1, 0), Kit.row(0, 1, 2, 3, 4), 17);
    return plan;
  }

  private static GroundPlan searched(int times, int kind) {
    GroundPlan plan = Plans.four();
    for (int i = 0; i < times; i++) {
      plan.least(kind == 0 ? 1 + i % 3 : kind);
    }
    return plan;
  }

  private void leastSixty() {
    edge.hold(23, "-2, and nothing changes: there were 60 such calls that told a GROUND.");
    for (int k = 0; k <= 3; k++) {
      int spent = k;
      GroundPlan last = searched(59, k);
      edge.yes("the sixtieth least()", last.least(1) > 0);
      edge.due("the next least()", -2, last, p -> p.least(1));
      edge.due("and the next", -2, last, p -> p.least(2));
      edge.due("about(0)", 1, last, p -> p.about(0));
      for (int a = 1; a <= 3; a++) {
        int kind = a;
        edge.refuses("least(" + a + ") behind sixty", -2, () -> searched(60, spent), p -> p.least(kind));
        edge.refuses("least(" + a + ") behind sixty", -2, SearchEdges::sixtyPlaced, p -> p.least(kind));
      }
    }
    GroundPlan ended = searched(60, 0);
    ended.less();
    edge.due("least(1) of other blocks behind sixty", -2, ended, p -> p.least(1));
    edge.noLaying(ended);
    edge.yes("least(1) of another object", Plans.four().least(1) > 0);
  }

  private static GroundPlan sixtyPlaced() {
    GroundPlan plan = searched(60, 0);
    plan.places();
    plan.put(3, 70, 80, false);
    return plan;
  }

  /** Calls that told no ground do not count. */
  private void leastUncounted() {
    GroundPlan plan = Plans.empty();
    for (int i = 0; i < 70; i++) {
      edge.due("least() of none", Edge.NONE, plan, p -> p.least(1));
    }
    plan.block(3, 2, false);
    for (int i = 0; i < 70; i++) {
      edge.due("least(4)", Edge.THROWS, plan, p -> p.least(4));
    }
    for (int i = 0; i < 59; i++) {
      edge.due("least(3), call " + i, 6, plan, p -> p.least(3));
    }
    for (int b = 0; b < 4; b++) {
      plan.block(1, 1, false);
    }
    for (int i = 0; i < 70; i++) {
      edge.due("least() of five", Edge.NONE, plan, p -> p.least(2));
    }
    for (int b = 0; b < 4; b++) {
      plan.less();
    }
    edge.due("the sixtieth that tells a ground", 6, plan, p -> p.least(2));
    edge.due("the next", -2, plan, p -> p.least(2));
  }

  private void leastKinds() {
    edge.hold(23, "NoSuchElementException: another kind.");
    for (int bad : BAD_KINDS) {
      for (Supplier<GroundPlan> make : EVERY) {
        edge.refuses("least(" + bad + ")", Edge.THROWS, make, p -> p.least(bad));
      }
      edge.refuses("least(" + bad + ") of none", Edge.THROWS, Plans::empty, p -> p.least(bad));
      edge.refuses("least(" + bad + ") of five", Edge.THROWS, SearchEdges::fiveCut, p -> p.least(bad));
      edge.refuses("least(" + bad + ") behind sixty", Edge.THROWS, SearchEdges::sixtyPlaced, p -> p.least(bad));
    }
  }

  /** What was found is of the blocks that there are, and laid anew each time. */
  private void leastAnew() {
    edge.hold(23, "of the BLOCKS, all ways to TURN");
    for (int k = 1; k <= 3; k++) {
      int kind = k;
      GroundPlan plan = Plans.of(3, 2);
      edge.due("least(" + k + ")", 6, plan, p -> p.least(kind));
      plan.block(1, 1, false);
      edge.due("least(" + k + ") of one more", 8, plan, p -> p.least(kind));
      plan.less();
      edge.due("least(" + k + ") of one fewer", 6, plan, p -> p.least(kind));
      plan.less();
      plan.block(5, 5, false);
      edge.due("least(" + k + ") of another one", 25, plan, p -> p.least(kind));
      plan.places();
      plan.put(0, 7, 7, false);
      edge.due("least(" + k + ") again", 25, plan, p -> p.least(kind));
      edge.due("about(0)", k, plan, p -> p.about(0));
      edge.lies(plan, 0, 0, 0);
      GroundPlan turned = Plans.turning(2, 1, 3, 2);
      turned.least(kind);
      turned.of(3);
      edge.due("least(" + k + ") again", 8, turned, p -> p.least(kind));
      edge.turned(turned, 2, 1);
      edge.due("about(3)", 8, turned, p -> p.about(3));
    }
  }

  private void countEnds() {
    edge.hold(24, "NONE: n is not 1 to 10.");
    long[][] ends = {{1, 4, 13168189440000L}, {1, 4, 747888422400L}, {1, 4, 60949324800L}};
    for (int k = 1; k <= 3; k++) {
      int kind = k;
      for (GroundPlan plan : new GroundPlan[] {Plans.empty(), Plans.fourCut(), Plans.many(12, true)}) {
        edge.due("count(" + k + ", 1)", ends[k - 1][0], plan, p -> p.count(kind, 1));
        edge.due("count(" + k + ", 2)", ends[k - 1][1], plan, p -> p.count(kind, 2));
        edge.due("count(" + k + ", 10)", ends[k - 1][2], plan, p -> p.count(kind, 10));
      }
      for (int bad : new int[] {0, 11, 12, -1, Edge.LEAST_INT, Edge.MOST_INT}) {
        edge.refuses("count(" + k + ", " + bad + ")", Edge.NONE, Plans::fourPaired, p -> p.count(kind, bad));
      }
    }
    edge.hold(24, "n BLOCKS have, TURNED ones aside");
    edge.due("count(2, 3)", 36, Plans.turning(3, 2, 2, 4), p -> p.count(2, 3));
    edge.due("count(3, 3)", 30, Plans.turning(3, 2, 2, 4), p -> p.count(3, 3));
  }

  private void countKinds() {
    edge.hold(24, "NoSuchElementException: another kind.");
    for (int bad : BAD_KINDS) {
      edge.refuses("count(" + bad + ", 1)", Edge.THROWS, Plans::fourTree, p -> p.count(bad, 1));
      edge.due("count(" + bad + ", 10)", Edge.THROWS, Plans.empty(), p -> p.count(bad, 10));
      edge.due("count(" + bad + ", 0)", Edge.THROWS, Plans.empty(), p -> p.count(bad, 0));
      edge.due("count(" + bad + ", 11)", Edge.THROWS, Plans.empty(), p -> p.count(bad, 11));
    }
  }

  private static long factorial(int n) {
    return n < 2 ? 1 : n * factorial(n - 1);
  }

  /** The numbers n - 1 to 0 as an order. */
  private static long down(int n) {
    return Plans.DOWN >> 4 * (12 - n) & ~(-1L << 4 * n) | -1L << 4 * n;
  }

  private static long up(int n) {
    return Plans.UP | -1L << 4 * n;
  }

  private void rankEnds() {
    edge.hold(25, "The rank of a PAIR, from 0 on: by ONE, then TWO, as rows of numbers, lesser ones first.");
    for (int n = 1; n <= 12; n++) {
      long rows = factorial(n);
      GroundPlan plan = Plans.many(n, true);
      plan.pair(up(n), up(n), -1);
      edge.due("rank() of the first of " + n, 0, plan, p -> p.rank());
      plan.pair(up(n), down(n), 0);
      edge.due("rank() of the last TWO of " + n, rows - 1, plan, p -> p.rank());
      plan.pair(down(n), up(n), 0);
      edge.due("rank() of the last ONE of " + n, (rows - 1) * rows, plan, p -> p.rank());
      plan.pair(down(n), down(n), -1);
      edge.due("rank() of the last of " + n, rows * rows - 1, plan, p -> p.rank());
    }
  }

  private void rankRefused() {
    edge.hold(25, "NoSuchElementException: the LAYING is no PAIR.");
    for (Supplier<GroundPlan> make : List.<Supplier<GroundPlan>>of(
        Plans::empty, Plans::four, Plans::fourPlaced, Plans::fourCut, Plans::fourTree)) {
      edge.refuses("rank()", Edge.THROWS, make, p -> p.rank());
    }
    GroundPlan plan = Plans.fourPaired();
    edge.due("rank()", 6 * 24 + 1, plan, p -> p.rank());
    plan.places();
    edge.due("rank() when the pair has become places", Edge.THROWS, plan, p -> p.rank());
  }

  private void ofDue(GroundPlan plan, long rank, long one, long two) {
    edge.yes("of(" + rank + ")", plan.of(rank));
    edge.due("about(0)", 1, plan, p -> p.about(0));
    edge.due("told(0)", one, plan, p -> p.told(0));
    edge.due("told(1)", two, plan, p -> p.told(1));
    edge.due("rank()", rank, plan, p -> p.rank());
  }

  private void ofEnds() {
    edge.hold(26, "False: there is none such.");
    for (int n = 1; n <= 12; n++) {
      long rows = factorial(n);
      GroundPlan plan = Plans.many(n, true);
      for (long bad : new long[] {-1, rows * rows, rows * rows + 1, Long.MIN_VALUE, Long.MAX_VALUE, -rows}) {
        edge.no("of(" + bad + ") of " + n, plan.of(bad));
      }
      edge.noLaying(plan);
      ofDue(plan, 0, up(n), up(n));
      ofDue(plan, rows - 1, up(n), down(n));
      ofDue(plan, (rows - 1) * rows, down(n), up(n));
      ofDue(plan, rows * rows - 1, down(n), down(n));
      edge.no("of() behind the last of " + n, plan.of(rows * rows));
      edge.due("rank()", rows * rows - 1, plan, p -> p.rank());
      if (n > 1) {
        long swapped = up(n) & ~(255L << 4 * (n - 2)) | (long) (n - 2 << 4 | n - 1) << 4 * (n - 2);
        ofDue(plan, rows, swapped, up(n));
        ofDue(plan, 1, up(n), swapped);
      }
    }
    GroundPlan three = Plans.many(3, false);
    for (int rank = 0; rank < 36; rank++) {
      int due = rank;
      edge.yes("of(" + rank + ") of 3", three.of(rank));
      edge.due("rank()", due, three, p -> p.rank());
    }
  }

  private void ofTurned() {
    edge.hold(26, "The LAYING becomes the PAIR of a rank, none TURNED: true.");
    for (Supplier<GroundPlan> make : EVERY) {
      GroundPlan plan = make.get();
      edge.yes("of(145)", plan.of(145));
      edge.turned(plan, 4, 0);
      edge.lies(plan, 0, 0, 0);
      edge.lies(plan, 1, 0, 2);
      edge.lies(plan, 2, 4, 1);
      edge.lies(plan, 3, 4, 0);
      edge.due("rank()", 145, plan, p -> p.rank());
    }
  }

  private void ofRefused() {
    edge.hold(26, "False: there is none such.");
    for (Supplier<GroundPlan> make : EVERY) {
      for (long bad : new long[] {-1, 576, 1L << 32, Long.MIN_VALUE, Long.MAX_VALUE}) {
        edge.refuses("of(" + bad + ")", Edge.NO, make, p -> Edge.one(p.of(bad)));
      }
    }
    for (long none : new long[] {0, 1, -1}) {
      edge.refuses("of(" + none + ") without blocks", Edge.NO, Plans::empty, p -> Edge.one(p.of(none)));
    }
  }
}
