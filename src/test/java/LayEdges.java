import java.util.List;
import java.util.function.Supplier;

/** Boundary cases of promises 6 to 10: places, put, pair, cuts, tree. */
final class LayEdges {
  private static final int BESIDE = Plans.BESIDE;
  private static final int ABOVE = Plans.ABOVE;
  private static final long UP = Kit.row(0, 1, 2, 3);
  private static final List<Supplier<GroundPlan>> EVERY =
      List.of(Plans::four, Plans::fourPlaced, Plans::fourPaired, Plans::fourCut, Plans::fourTree);

  private final Edge edge;

  LayEdges(Edge edge) {
    this.edge = edge;
  }

  void run() {
    placesWithout();
    placesAsTheyLie();
    placesOfNone();
    putElsewhere();
    putPlaces();
    putTurned();
    putNoBlock();
    pairTurned();
    pairOfNone();
    pairOrders();
    pairEachOrder();
    pairRefused();
    cutsTokens();
    cutsOfNone();
    cutsEachRow();
    cutsTurned();
    treeOfNone();
    treeRoots();
    treeChildren();
    treeEach();
    treeTurned();
  }

  private void placesWithout() {
    edge.hold(6, "all BLOCKS at 0, 0, not TURNED, if there was none");
    GroundPlan plan = Plans.turning(3, 2, 2, 4);
    edge.yes("places()", plan.places());
    edge.due("about(0)", 0, plan, p -> p.about(0));
    edge.lies(plan, 0, 0, 0);
    edge.lies(plan, 1, 0, 0);
    edge.turned(plan, 2, 0);
    plan.put(0, 7, 7, true);
    plan.put(1, 70, 70, true);
    plan.block(1, 1, true);
    edge.yes("places() when a laying has ended", plan.places());
    edge.lies(plan, 0, 0, 0);
    edge.lies(plan, 1, 0, 0);
    edge.turned(plan, 3, 0);
    edge.sized(plan, 0, 3, 2);
  }

  private void placesAsTheyLie() {
    edge.hold(6, "else as they lie");
    for (Supplier<GroundPlan> make : EVERY.subList(1, EVERY.size())) {
      GroundPlan laid = make.get();
      GroundPlan twin = make.get();
      edge.yes("places()", laid.places());
      edge.due("about(0)", 0, laid, p -> p.about(0));
      for (int b = 0; b < 4; b++) {
        for (int w = 0; w < 5; w++) {
          int block = b;
          int what = w;
          edge.due("at(" + b + ", " + w + ")", twin.at(b, w), laid, p -> p.at(block, what));
        }
      }
      for (int w = 0; w < 7; w++) {
        int what = w;
        edge.due("told(" + w + ")", Edge.THROWS, laid, p -> p.told(what));
      }
      edge.yes("places() again", laid.places());
      edge.due("at(3, 1)", twin.at(3, 1), laid, p -> p.at(3, 1));
      edge.yes("put()", laid.put(3, 9, 9, false));
    }
  }

  private void placesOfNone() {
    edge.hold(6, "False: there are no BLOCKS.");
    edge.refuses("places()", Edge.NO, Plans::empty, p -> Edge.one(p.places()));
    GroundPlan plan = Plans.of(1, 1);
    edge.yes("places() of one", plan.places());
    plan.less();
    edge.no("places() when all are gone", plan.places());
    edge.noLaying(plan);
  }

  private void putElsewhere() {
    edge.hold(7, "False: the LAYING is no PLACES");
    edge.yes("put()", Plans.fourPlaced().put(0, 5, 60, false));
    for (Supplier<GroundPlan> make : List.<Supplier<GroundPlan>>of(
        Plans::four, Plans::fourPaired, Plans::fourCut, Plans::fourTree)) {
      edge.refuses("put(0, 50, 60, false)", Edge.NO, make, p -> Edge.one(p.put(0, 50, 60, false)));
      edge.refuses("put(2, 50, 60, true)", Edge.NO, make, p -> Edge.one(p.put(2, 50, 60, true)));
    }
  }

  private void putPlaces() {
    edge.hold(7, "x or y not 0 to 10000");
    int[][] good = {{0, 0}, {10000, 0}, {0, 10000}, {10000, 10000}, {9999, 1}, {1, 9999}};
    GroundPlan plan = Plans.fourPlaced();
    for (int[] place : good) {
      edge.yes("put(1, " + place[0] + ", " + place[1] + ", false)", plan.put(1, place[0], place[1], false));
      edge.lies(plan, 1, place[0], place[1]);
    }
    for (int bad : new int[] {-1, 10001, -10000, 65536, Edge.LEAST_INT, Edge.MOST_INT}) {
      edge.refuses("put(1, " + bad + ", 0, false)", Edge.NO, Plans::fourPlaced,
          p -> Edge.one(p.put(1, bad, 0, false)));
      edge.refuses("put(0, 10000, " + bad + ", true)", Edge.NO, Plans::fourPlaced,
          p -> Edge.one(p.put(0, 10000, bad, true)));
      edge.refuses("put(0, " + bad + ", " + bad + ", false)", Edge.NO, Plans::fourPlaced,
          p -> Edge.one(p.put(0, bad, bad, false)));
    }
  }

  private void putTurned() {
    edge.hold(7, "TURNED and may not be");
    edge.refuses("put(1, 5, 60, true)", Edge.NO, Plans::fourPlaced, p -> Edge.one(p.put(1, 5, 60, true)));
    edge.refuses("put(3, 5, 60, true)", Edge.NO, Plans::fourHeaped, p -> Edge.one(p.put(3, 5, 60, true)));
    GroundPlan plan = Plans.fourPlaced();
    edge.yes("put(1, 5, 60, false)", plan.put(1, 5, 60, false));
    edge.sized(plan, 1, 3, 5);
    edge.yes("put(2, 5, 60, true)", plan.put(2, 5, 60, true));
    edge.sized(plan, 2, 3, 2);
    edge.turned(plan, 4, 5);
    edge.yes("put(0, 5, 60, false)", plan.put(0, 5, 60, false));
    edge.sized(plan, 0, 4, 2);
    edge.turned(plan, 4, 4);
    GroundPlan square = Plans.of(5, 5);
    square.places();
    edge.no("put of a square that may not be turned", square.put(0, 0, 0, true));
    edge.turned(square, 1, 0);
  }

  private void putNoBlock() {
    edge.hold(7, "A BLOCK's place in PLACES: true.");
    for (Supplier<GroundPlan> make : EVERY) {
      for (int bad : new int[] {-1, 4}) {
        edge.refuses("put(" + bad + ", 0, 0, false)", Edge.THROWS, make, p -> Edge.one(p.put(bad, 0, 0, false)));
        edge.refuses("put(" + bad + ", -1, 0, true)", Edge.THROWS, make, p -> Edge.one(p.put(bad, -1, 0, true)));
      }
    }
    edge.due("put(0, 0, 0, false) without blocks", Edge.THROWS, Plans.empty(), p -> Edge.one(p.put(0, 0, 0, false)));
    GroundPlan plan = Plans.fourHeaped();
    edge.yes("put() of the first", plan.put(0, 20, 30, false));
    edge.yes("put() of the last", plan.put(3, 40, 50, false));
    edge.lies(plan, 0, 20, 30);
    edge.lies(plan, 3, 40, 50);
    edge.lies(plan, 1, 0, 0);
  }

  private static final int[] TURNS = {0, 1, 4, 5, 2, 8, 10, 15, 16, -1, -16, 1 << 31, 0x7FFFFFFF};

  private void pairTurned() {
    edge.hold(8, "(bits; of those that may not be: left out)");
    for (int bits : TURNS) {
      GroundPlan plan = Plans.four();
      edge.yes("pair(UP, UP, " + bits + ")", plan.pair(UP, UP, bits));
      edge.turned(plan, 4, bits & 5);
    }
    GroundPlan twelve = Plans.many(12, true);
    edge.yes("pair() of twelve, the last turned", twelve.pair(Plans.UP, Plans.UP, 1 << 11));
    edge.turned(twelve, 12, 1 << 11);
    edge.yes("pair() of twelve, one beyond turned", twelve.pair(Plans.UP, Plans.UP, 1 << 12));
    edge.turned(twelve, 12, 0);
  }

  private void pairOfNone() {
    edge.hold(8, "False (nothing changes): there are no BLOCKS");
    for (long order : new long[] {0, -1, 15, 0x10}) {
      edge.refuses("pair()", Edge.NO, Plans::empty, p -> Edge.one(p.pair(order, order, 0)));
    }
    GroundPlan plan = Plans.of(3, 2);
    edge.yes("pair() of one", plan.pair(0, 0, 0));
    plan.less();
    edge.no("pair() when all are gone", plan.pair(0, 0, 0));
    edge.noLaying(plan);
  }

  /** Of all longs' lowest numbers just those that hold each block once are taken, in both places. */
  private void pairOrders() {
    edge.hold(8, "or an order is none");
    for (int size = 1; size <= 3; size++) {
      int taken = 0;
      GroundPlan plan = Plans.many(size, false);
      int calls = size;
      long up = Plans.UP;
      for (long order = 0; order < 1L << 4 * size; order++) {
        boolean due = isOrder(order, size);
        if (calls > 500) {
          plan = Plans.many(size, false);
          calls = size;
        }
        boolean asOne = plan.pair(order, up, 0);
        boolean asTwo = plan.pair(up, order, 0);
        calls += 2;
        taken += asOne ? 1 : 0;
        if (asOne != due || asTwo != due) {
          edge.due("pair of order " + Long.toHexString(order), due ? 1 : 0, plan, p -> due ? 0 : 1);
        }
      }
      int want = new int[] {0, 1, 2, 6}[size];
      int all = taken;
      edge.due("orders taken of " + size, want, plan, p -> all);
    }
  }

  private static boolean isOrder(long told, int size) {
    int seen = 0;
    for (int i = 0; i < size; i++) {
      seen |= 1 << (told >> 4 * i & 15);
    }
    return seen == (1 << size) - 1;
  }

  /** At each place of twelve each other number is refused. */
  private void pairEachOrder() {
    for (int i = 0; i < 12; i++) {
      GroundPlan plan = Plans.many(12, false);
      plan.pair(Plans.DOWN, Plans.UP, 0);
      for (long number = 0; number < 16; number++) {
        long order = Plans.UP & ~(15L << 4 * i) | number << 4 * i;
        if (number != i) {
          edge.no("pair() with " + number + " at " + i, plan.pair(order, Plans.UP, 0));
          edge.no("pair() with " + number + " at " + i, plan.pair(Plans.UP, order, 0));
        }
      }
      edge.due("told(0)", Plans.DOWN, plan, p -> p.told(0));
      edge.yes("pair() with all", plan.pair(Plans.UP, Plans.DOWN, 0));
      edge.due("told(1)", Plans.DOWN, plan, p -> p.told(1));
    }
  }

  private void pairRefused() {
    long[] bad = {Kit.row(0, 1, 2), Kit.row(0, 1, 2, 2), Kit.row(0, 1, 2, 4), Kit.row(1, 2, 3, 4), 0, -1};
    for (Supplier<GroundPlan> make : EVERY) {
      for (long order : bad) {
        edge.refuses("pair(bad, UP, 1)", Edge.NO, make, p -> Edge.one(p.pair(order, UP, 1)));
        edge.refuses("pair(UP, bad, 1)", Edge.NO, make, p -> Edge.one(p.pair(UP, order, 1)));
      }
    }
  }

  /** Rows of 15, 17 and 23 tokens: the last of a, the first of b, the last one that is asked. */
  private void cutsTokens() {
    edge.hold(9, "TOKENS 0 to 15 in a, 16 to 22 in b");
    for (int size : new int[] {8, 9, 10, 11, 12}) {
      int[] tokens = TermsEdges.rowOf(size);
      for (int i = 0; i < tokens.length; i++) {
        GroundPlan plan = Plans.many(size, false);
        int kept = tokens[i];
        for (int token = 0; token < 16; token++) {
          tokens[i] = token;
          boolean due = token == kept || kept == BESIDE && token == ABOVE;
          boolean got = plan.cuts(TermsEdges.lowTokens(tokens), TermsEdges.highTokens(tokens), 0);
          edge.due("cuts of " + size + " with " + token + " at " + i, due ? 1 : 0, plan, p -> Edge.one(got));
        }
        tokens[i] = kept;
      }
      GroundPlan plan = Plans.many(size, false);
      edge.yes("cuts", plan.cuts(TermsEdges.lowTokens(tokens), TermsEdges.highTokens(tokens), 0));
      edge.lies(plan, size - 1, size * (size - 1) / 2, 0);
    }
  }

  private void cutsOfNone() {
    edge.hold(9, "else as pair()");
    for (long row : new long[] {0, -1, 15, 0xC10}) {
      edge.refuses("cuts()", Edge.NO, Plans::empty, p -> Edge.one(p.cuts(row, row, 0)));
    }
    long[] bad = {
      Kit.row(0, 1, 2, 3, BESIDE, BESIDE), Kit.row(0, 1, BESIDE, BESIDE, 2, 3, ABOVE),
      Kit.row(0, 1, 2, 2, BESIDE, BESIDE, ABOVE), Kit.row(0, 1, 2, 4, BESIDE, BESIDE, ABOVE),
      Kit.row(0, 1, 2, 3, BESIDE, BESIDE, 14), Kit.row(0, 1, BESIDE, 2, ABOVE, 3), Kit.row(BESIDE), 0, -1
    };
    for (Supplier<GroundPlan> make : EVERY) {
      for (long row : bad) {
        edge.refuses("cuts(bad, -1, 5)", Edge.NO, make, p -> Edge.one(p.cuts(row, -1, 5)));
      }
    }
  }

  /** All rows of up to five tokens: 1 of one block, 4 of two, 48 of three. */
  private void cutsEachRow() {
    int[] want = {0, 1, 4, 48};
    for (int size = 1; size <= 3; size++) {
      GroundPlan plan = Plans.many(size, false);
      int calls = size;
      int taken = 0;
      int toldBack = 0;
      for (long row = 0; row < 1L << 4 * (2 * size - 1); row++) {
        if (calls > 500) {
          plan = Plans.many(size, false);
          calls = size;
        }
        calls += 2;
        if (plan.cuts(row, 0, 0)) {
          taken++;
          toldBack += plan.told(2) == (row | -1L << 4 * (2 * size - 1)) ? 1 : 0;
        }
      }
      int all = taken;
      int told = toldBack;
      edge.due("rows taken of " + size, want[size], plan, p -> all);
      edge.due("rows told back of " + size, want[size], plan, p -> told);
    }
  }

  private void cutsTurned() {
    for (int bits : TURNS) {
      GroundPlan plan = Plans.four();
      edge.yes("cuts()", plan.cuts(Kit.row(0, 1, BESIDE, 2, ABOVE, 3, BESIDE), 0, bits));
      edge.turned(plan, 4, bits & 5);
    }
  }

  private void treeOfNone() {
    edge.hold(10, "else as pair()");
    for (int root : new int[] {0, -1, 15}) {
      edge.refuses("tree()", Edge.NO, Plans::empty, p -> Edge.one(p.tree(root, -1, -1, 0)));
    }
    edge.yes("tree() of one", Plans.of(3, 2).tree(0, -1, -1, 0));
  }

  private void treeRoots() {
    edge.hold(10, "by its root and children");
    for (int n = 1; n <= 12; n++) {
      int last = n - 1;
      long down = 0xA9876543210FL | -1L << 4 * n;
      GroundPlan plan = Plans.many(n, false);
      for (int bad : new int[] {-1, n, 12, 15, 16, 32, last - 32, last + 32, Edge.LEAST_INT, Edge.MOST_INT}) {
        edge.no("tree of root " + bad + " of " + n, plan.tree(bad, down, -1, 0));
      }
      edge.noLaying(plan);
      for (int root = 0; root < n; root++) {
        boolean got = plan.tree(root, down, -1, 0);
        edge.due("tree of root " + root + " of " + n, root == last ? 1 : 0, plan, p -> Edge.one(got));
      }
      edge.due("told(6) of " + n, last, plan, p -> p.told(6));
    }
    for (Supplier<GroundPlan> make : EVERY) {
      for (int bad : new int[] {-1, 0, 2, 4, 15}) {
        edge.refuses("tree of root " + bad, Edge.NO, make,
            p -> Edge.one(p.tree(bad, Kit.row(0, 2, 3, 15), -1, 5)));
      }
    }
  }

  private void treeChildren() {
    long left = Kit.row(1, 15, 3);
    long[][] bad = {
      {Kit.row(1), Kit.row(2)}, {left, Kit.row(2, 3)}, {left, Kit.row(4)}, {Kit.row(1, 4, 3), Kit.row(2)},
      {Kit.row(1, 12, 3), Kit.row(2)}, {Kit.row(1, 14, 3), Kit.row(2)}, {Kit.row(1, 0, 3), Kit.row(2)},
      {Kit.row(1, 1, 3), Kit.row(2)}, {Kit.row(1, 15, 3, 2), -1}, {Kit.row(1), Kit.row(1, 15, 3)}, {-1, -1}, {0, 0}
    };
    for (Supplier<GroundPlan> make : EVERY) {
      for (long[] children : bad) {
        String told = Long.toHexString(children[0]) + ", " + Long.toHexString(children[1]);
        edge.refuses("tree(0, " + told + ", 5)", Edge.NO, make,
            p -> Edge.one(p.tree(0, children[0], children[1], 5)));
      }
    }
    edge.yes("tree()", Plans.four().tree(0, left, Kit.row(2), 5));
  }

  /** All children of up to three blocks: 1, 4 and 30 trees, as promise 24 counts them. */
  private void treeEach() {
    int[] numbers = {0, 1, 2, 3, 12, 14, 15};
    int[] want = {0, 1, 4, 30};
    for (int size = 1; size <= 3; size++) {
      int ways = (int) Math.pow(numbers.length, size);
      int taken = 0;
      GroundPlan plan = Plans.many(size, false);
      int calls = size;
      for (int way = 0; way < ways * ways; way++) {
        long left = children(way % ways, size, numbers);
        long right = children(way / ways, size, numbers);
        for (int root = 0; root < size; root++) {
          if (calls++ > 500) {
            plan = Plans.many(size, false);
            calls = size;
          }
          taken += plan.tree(root, left, right, 0) ? 1 : 0;
        }
      }
      int all = taken;
      edge.due("trees taken of " + size, want[size], plan, p -> all);
    }
  }

  private static long children(int way, int size, int[] numbers) {
    long told = 0;
    int rest = way;
    for (int b = 0; b < size; b++) {
      told |= (long) numbers[rest % numbers.length] << 4 * b;
      rest /= numbers.length;
    }
    return told;
  }

  private void treeTurned() {
    edge.hold(10, "else as pair()");
    for (int bits : TURNS) {
      GroundPlan plan = Plans.four();
      edge.yes("tree()", plan.tree(0, Kit.row(1, 15, 3), Kit.row(2), bits));
      edge.turned(plan, 4, bits & 5);
    }
  }
}
