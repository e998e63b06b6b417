/** Each promise of the document by examples that were worked out by hand. */
public final class PromiseTest {
  private static final int BESIDE = 12;
  private static final int ABOVE = 13;
  private static final int FAR = Integer.MAX_VALUE;
  private static final Kit kit = new Kit("PromiseTest");

  public static void main(String[] args) {
    newObject();
    block();
    less();
    lessLeavesNoTrace();
    side();
    net();
    places();
    put();
    pair();
    pairOrders();
    cuts();
    longCuts();
    tree();
    treeRefused();
    about();
    at();
    told();
    slack();
    wires();
    from();
    fromLoose();
    isCut();
    normal();
    curve();
    shape();
    best();
    swap();
    least();
    leastFirst();
    leastEnds();
    count();
    rank();
    of();
    kit.finish();
  }

  /** 0: 4 by 2 (may turn), 1: 3 by 5, 2: 2 by 3 (may turn), 3: 6 by 1. */
  private static GroundPlan four() {
    GroundPlan plan = new GroundPlan();
    plan.block(4, 2, true);
    plan.block(3, 5, false);
    plan.block(2, 3, true);
    plan.block(6, 1, false);
    return plan;
  }

  private static GroundPlan fourPaired(int turned) {
    GroundPlan plan = four();
    kit.yes("pair of four", plan.pair(Kit.row(1, 0, 2, 3), Kit.row(0, 1, 3, 2), turned));
    return plan;
  }

  private static GroundPlan fourCut(int turned) {
    GroundPlan plan = four();
    kit.yes("cuts of four", plan.cuts(Kit.row(0, 1, BESIDE, 2, ABOVE, 3, BESIDE), 0, turned));
    return plan;
  }

  private static GroundPlan fourTree(int turned) {
    GroundPlan plan = four();
    kit.yes("tree of four", plan.tree(0, Kit.row(1, 15, 3, 15), Kit.row(2, 15, 15, 15), turned));
    return plan;
  }

  private static GroundPlan many(int n, boolean mayTurn) {
    GroundPlan plan = new GroundPlan();
    for (int i = 0; i < n; i++) {
      plan.block(i + 1, 2, mayTurn);
    }
    return plan;
  }

  private static void lies(GroundPlan plan, int block, int x, int y, int width, int height) {
    kit.due("at(" + block + ", 0)", x, () -> plan.at(block, 0));
    kit.due("at(" + block + ", 1)", y, () -> plan.at(block, 1));
    kit.due("at(" + block + ", 2)", width, () -> plan.at(block, 2));
    kit.due("at(" + block + ", 3)", height, () -> plan.at(block, 3));
  }

  private static void noLaying(GroundPlan plan) {
    kit.thrown("about(0) without a laying", () -> plan.about(0));
    kit.thrown("at(0, 0) without a laying", () -> plan.at(0, 0));
    kit.thrown("wires() without a laying", plan::wires);
    kit.thrown("isCut() without a laying", () -> plan.isCut() ? 1 : 0);
    kit.thrown("normal() without a laying", plan::normal);
    kit.thrown("curve() without a laying", plan::curve);
    kit.thrown("shape(0, 0) without a laying", () -> plan.shape(0, 0));
    kit.thrown("best(0) without a laying", () -> plan.best(0));
    kit.thrown("rank() without a laying", plan::rank);
    kit.thrown("slack(0, 0) without a laying", () -> plan.slack(0, 0));
    for (int what = -1; what <= 7; what++) {
      int asked = what;
      kit.thrown("told(" + what + ") without a laying", () -> plan.told(asked));
    }
    kit.no("from() without a laying", plan.from());
    kit.no("swap() without a laying", plan.swap(0, 0, 0));
  }

  private static void newObject() {
    GroundPlan plan = new GroundPlan();
    kit.due("NONE", -1, GroundPlan.NONE);
    noLaying(plan);
    kit.no("places() of a new object", plan.places());
    kit.no("pair() of a new object", plan.pair(0, 0, 0));
    kit.no("cuts() of a new object", plan.cuts(0, 0, 0));
    kit.no("tree() of a new object", plan.tree(0, -1, -1, 0));
    kit.no("of(0) of a new object", plan.of(0));
    kit.thrown("put() of a new object", () -> plan.put(0, 0, 0, false) ? 1 : 0);
    kit.thrown("side(0, 0) of a new object", () -> plan.side(0, 0));
    for (int i = 0; i < 20; i++) {
      int net = i;
      kit.due("net of a new object", 0, () -> plan.net(net, -1));
    }
    kit.due("least(1) of a new object", -1, () -> plan.least(1));
    kit.due("less() of a new object", -1, plan.less());
    noLaying(plan);
    plan.block(1, 1, false);
    plan.block(1, 1, false);
    plan.of(0);
    kit.due("wires of no nets", 0, plan::wires);
  }

  private static void block() {
    GroundPlan plan = new GroundPlan();
    int[][] bad = {{0, 1}, {1, 0}, {201, 1}, {1, 201}, {-1, 5}, {5, -1}, {FAR, 1}, {1, -FAR - 1}};
    for (int[] sides : bad) {
      kit.due("block of bad sides", -1, plan.block(sides[0], sides[1], true));
    }
    kit.due("block(1, 200)", 0, plan.block(1, 200, false));
    kit.due("block(200, 1)", 1, plan.block(200, 1, true));
    plan.places();
    kit.due("bad block", -1, plan.block(0, 1, false));
    kit.due("a refused block leaves the laying", 0, () -> plan.about(0));
    kit.due("the third block", 2, plan.block(7, 9, false));
    noLaying(plan);
    for (int i = 3; i < 12; i++) {
      kit.due("block " + i, i, plan.block(1, 1, false));
    }
    plan.places();
    kit.due("block 12", -1, plan.block(1, 1, false));
    kit.due("a thirteenth block leaves the laying", 0, () -> plan.about(0));
    kit.due("side of the last block", 1, () -> plan.side(11, 1));
    kit.thrown("side of no block", () -> plan.side(12, 0));
  }

  private static void less() {
    GroundPlan plan = four();
    plan.net(0, 15);
    plan.net(19, 8);
    plan.pair(Kit.row(0, 1, 2, 3), Kit.row(0, 1, 2, 3), 0);
    kit.due("wires of four beside", 20 + 4, () -> plan.wires());
    kit.due("less", 3, plan.less());
    noLaying(plan);
    kit.thrown("the block is gone", () -> plan.side(3, 0));
    kit.due("its number comes again", 3, plan.block(50, 50, false));
    plan.places();
    plan.put(3, 1000, 1000, false);
    kit.due("nets are without it", 2 + 3, () -> plan.wires());
    kit.due("less again", 3, plan.less());
    kit.due("less to 2", 2, plan.less());
    kit.due("block 2 may not turn now", 2, plan.block(3, 4, false));
    kit.due("side(2, 2)", 0, () -> plan.side(2, 2));
    kit.due("less to 2", 2, plan.less());
    kit.due("less to 1", 1, plan.less());
    kit.due("less to 0", 0, plan.less());
    kit.due("less of none", -1, plan.less());
    kit.no("places of none", plan.places());
  }

  /** Widths 1 to 12, all 2 high, then the first ones of them alone. */
  private static void lessLeavesNoTrace() {
    GroundPlan plan = many(12, false);
    kit.yes("the last pair of twelve", plan.of(479001600L * 479001600L - 1));
    kit.yes("a row of twelve is cut", plan.isCut());
    for (int left = 11; left >= 1; left--) {
      kit.due("less to " + left, left, plan.less());
      noLaying(plan);
      kit.yes("the first pair of " + left, plan.of(0));
      kit.due("its rank", 0, () -> plan.rank());
      kit.due("all stand in a row", left * (left + 1) / 2, () -> plan.about(1));
      kit.due("which is as high as one", 2, () -> plan.about(2));
      kit.yes("and is cut", plan.isCut());
      lies(plan, 0, 0, 0, 1, 2);
      lies(plan, left - 1, left * (left - 1) / 2, 0, left, 2);
      kit.yes("a later pair", plan.of(plan.count(1, Math.min(left, 10)) - 1));
    }
    kit.due("the one that is left is ONE", Kit.row(0), () -> plan.told(0));
    kit.due("and TWO", Kit.row(0), () -> plan.told(1));
  }

  private static void side() {
    GroundPlan plan = four();
    int[][] want = {{4, 2, 1}, {3, 5, 0}, {2, 3, 1}, {6, 1, 0}};
    plan.pair(Kit.row(0, 1, 2, 3), Kit.row(0, 1, 2, 3), 5);
    for (int b = 0; b < 4; b++) {
      for (int what = 0; what < 3; what++) {
        int block = b;
        int asked = what;
        kit.due("side(" + b + ", " + what + ")", want[b][what], () -> plan.side(block, asked));
      }
    }
    for (int bad : new int[] {-1, 4, 12, 32, FAR, -FAR - 1}) {
      kit.thrown("side(" + bad + ", 0)", () -> plan.side(bad, 0));
    }
    for (int bad : new int[] {-1, 3, FAR, -FAR - 1}) {
      kit.thrown("side(0, " + bad + ")", () -> plan.side(0, bad));
    }
  }

  private static void net() {
    GroundPlan plan = four();
    kit.due("net(0, 11)", 3, () -> plan.net(0, 11));
    kit.due("net(19, -1)", 4, () -> plan.net(19, -1));
    kit.due("net(1, -16)", 0, () -> plan.net(1, -16));
    kit.due("net(2, 16 + 2)", 1, () -> plan.net(2, 18));
    for (int bad : new int[] {-1, 20, FAR, -FAR - 1}) {
      kit.thrown("net(" + bad + ", 1)", () -> plan.net(bad, 1));
    }
    plan.net(0, 1);
    plan.net(19, 0);
    plan.pair(Kit.row(0, 1, 2, 3), Kit.row(0, 1, 2, 3), 0);
    kit.due("a net told anew joins no others", 0, () -> plan.wires());
    plan.net(3, 3);
    kit.due("a net leaves the laying", 1, () -> plan.about(0));
    plan.block(1, 1, false);
    plan.places();
    plan.put(4, 500, 500, false);
    kit.due("a net does not join a later block", 1 + 3, () -> plan.wires());
  }

  private static void places() {
    GroundPlan plan = four();
    kit.yes("places()", plan.places());
    kit.due("its kind", 0, () -> plan.about(0));
    for (int b = 0; b < 4; b++) {
      lies(plan, b, 0, 0, plan.side(b, 0), plan.side(b, 1));
    }
    plan.put(0, 9, 8, true);
    kit.yes("places() again", plan.places());
    lies(plan, 0, 9, 8, 2, 4);
    GroundPlan[] plans = {fourPaired(5), fourCut(5), fourTree(5)};
    for (GroundPlan laid : plans) {
      int x = laid.at(3, 0);
      int y = laid.at(2, 1);
      kit.yes("places() of another laying", laid.places());
      kit.due("its kind", 0, () -> laid.about(0));
      kit.due("x as it lay", x, () -> laid.at(3, 0));
      kit.due("y as it lay", y, () -> laid.at(2, 1));
      kit.due("turned as it lay", 1, () -> laid.at(2, 4));
      kit.due("width as it lay", 3, () -> laid.at(2, 2));
      kit.thrown("told of places", () -> laid.told(0));
    }
    plan.block(1, 1, true);
    kit.yes("places() anew", plan.places());
    lies(plan, 0, 0, 0, 4, 2);
    kit.due("not turned", 0, () -> plan.at(0, 4));
  }

  private static void put() {
    GroundPlan plan = four();
    kit.no("put without a laying", plan.put(0, 1, 1, false));
    kit.thrown("put of no block without a laying", () -> plan.put(4, 1, 1, false) ? 1 : 0);
    plan.places();
    kit.yes("put", plan.put(0, 10000, 0, true));
    lies(plan, 0, 10000, 0, 2, 4);
    kit.due("turned", 1, () -> plan.at(0, 4));
    kit.yes("put", plan.put(0, 0, 10000, false));
    lies(plan, 0, 0, 10000, 4, 2);
    kit.due("not turned", 0, () -> plan.at(0, 4));
    kit.no("put turned that may not be", plan.put(1, 3, 3, true));
    lies(plan, 1, 0, 0, 3, 5);
    kit.yes("put not turned", plan.put(1, 3, 3, false));
    lies(plan, 1, 3, 3, 3, 5);
    for (int bad : new int[] {-1, 10001, FAR, -FAR - 1}) {
      kit.no("put at x " + bad, plan.put(1, bad, 0, false));
      kit.no("put at y " + bad, plan.put(1, 0, bad, false));
    }
    lies(plan, 1, 3, 3, 3, 5);
    for (int bad : new int[] {-1, 4, 12, 32, FAR}) {
      kit.thrown("put of block " + bad, () -> plan.put(bad, 0, 0, false) ? 1 : 0);
    }
    GroundPlan[] plans = {fourPaired(0), fourCut(0), fourTree(0)};
    for (GroundPlan laid : plans) {
      kit.no("put in another kind", laid.put(0, 77, 77, false));
      kit.due("nothing moved", 0, () -> laid.at(0, 0));
      kit.thrown("put of no block", () -> laid.put(4, 0, 0, false) ? 1 : 0);
    }
  }

  private static void pair() {
    GroundPlan plan = fourPaired(0);
    lies(plan, 0, 0, 0, 4, 2);
    lies(plan, 1, 0, 2, 3, 5);
    lies(plan, 2, 4, 1, 2, 3);
    lies(plan, 3, 4, 0, 6, 1);
    kit.due("kind", 1, () -> plan.about(0));
    GroundPlan turned = fourPaired(-1);
    lies(turned, 0, 0, 0, 2, 4);
    lies(turned, 1, 0, 4, 3, 5);
    lies(turned, 2, 3, 1, 3, 2);
    lies(turned, 3, 3, 0, 6, 1);
    kit.due("block 1 is not turned", 0, () -> turned.at(1, 4));
    kit.due("block 2 is turned", 1, () -> turned.at(2, 4));
  }

  private static void pairOrders() {
    GroundPlan plan = fourPaired(1);
    long good = Kit.row(0, 1, 2, 3);
    long[] bad = {0, Kit.row(0, 1, 2), Kit.row(0, 1, 2, 2), Kit.row(0, 1, 2, 4), Kit.row(1, 2, 3, 4), -1};
    for (long order : bad) {
      kit.no("pair of a bad ONE", plan.pair(order, good, 0));
      kit.no("pair of a bad TWO", plan.pair(good, order, 0));
      kit.due("nothing changed", Kit.row(1, 0, 2, 3), () -> plan.told(0));
      kit.due("nothing changed", 1, () -> plan.at(0, 4));
    }
    kit.yes("what stands behind isn't asked", plan.pair(0x3210, 0x7777777777773210L, 0));
    kit.due("told with 15s", good, () -> plan.told(0));
    kit.due("told with 15s", good, () -> plan.told(1));
    GroundPlan twelve = many(12, false);
    long up = 0xBA9876543210L;
    kit.yes("pair of twelve", twelve.pair(up, up, 0));
    kit.due("x of the last", 66, () -> twelve.at(11, 0));
    kit.due("told of twelve", up | 0xFFFFL << 48, () -> twelve.told(0));
    kit.no("pair of twelve with 12", twelve.pair(up, 0xCA9876543210L, 0));
    kit.no("pair of twelve with 15", twelve.pair(up, 0xFA9876543210L, 0));
    GroundPlan one = many(1, true);
    kit.yes("pair of one", one.pair(0, -16, 1));
    lies(one, 0, 0, 0, 2, 1);
  }

  private static void cuts() {
    GroundPlan plan = fourCut(0);
    lies(plan, 0, 0, 0, 4, 2);
    lies(plan, 1, 4, 0, 3, 5);
    lies(plan, 2, 0, 5, 2, 3);
    lies(plan, 3, 7, 0, 6, 1);
    kit.due("kind", 2, () -> plan.about(0));
    kit.due("wide", 13, () -> plan.about(1));
    kit.due("high", 8, () -> plan.about(2));
    long[] bad = {
      Kit.row(0, 1, 2, 3, BESIDE, BESIDE),
      Kit.row(0, 1, 2, 3, BESIDE, BESIDE, 14),
      Kit.row(0, BESIDE, 1, 2, 3, ABOVE, ABOVE),
      Kit.row(0, 1, BESIDE, BESIDE, 2, 3, ABOVE),
      Kit.row(0, 1, 2, 2, BESIDE, BESIDE, ABOVE),
      Kit.row(0, 1, 2, 4, BESIDE, BESIDE, ABOVE),
      Kit.row(0, 1, 2, BESIDE, BESIDE, 3, 3),
      Kit.row(BESIDE, 0, 1, 2, 3, ABOVE, ABOVE),
      Kit.row(0, 1, 2, 3, 0, BESIDE, ABOVE),
      0L,
      -1L
    };
    for (long row : bad) {
      kit.no("cuts of a bad row " + Long.toHexString(row), plan.cuts(row, 0, 5));
    }
    kit.due("nothing changed", Kit.row(0, 1, BESIDE, 2, ABOVE, 3, BESIDE), () -> plan.told(2));
    kit.due("nothing changed", 0, () -> plan.at(0, 4));
    GroundPlan turned = fourCut(-1);
    lies(turned, 0, 0, 0, 2, 4);
    lies(turned, 1, 2, 0, 3, 5);
    lies(turned, 2, 0, 5, 3, 2);
    lies(turned, 3, 5, 0, 6, 1);
    GroundPlan one = many(1, false);
    kit.yes("cuts of one", one.cuts(0, 0, 0));
    kit.no("cuts of one of another", one.cuts(1, 0, 0));
    kit.due("told of one", -16, () -> one.told(2));
  }

  private static void longCuts() {
    GroundPlan plan = many(12, false);
    long a = Kit.row(0, 1, 12, 2, 12, 3, 12, 4, 12, 5, 12, 6, 12, 7, 12, 8);
    long b = Kit.row(13, 9, 13, 10, 13, 11, 12);
    kit.yes("cuts of twelve", plan.cuts(a, b & 0xFFFFFFFL, 0));
    kit.due("told(2)", a, () -> plan.told(2));
    kit.due("told(3)", b, () -> plan.told(3));
    lies(plan, 7, 28, 0, 8, 2);
    lies(plan, 8, 0, 2, 9, 2);
    lies(plan, 9, 0, 4, 10, 2);
    lies(plan, 10, 0, 6, 11, 2);
    lies(plan, 11, 36, 0, 12, 2);
    kit.no("cuts of twelve with a bad end", plan.cuts(a, Kit.row(13, 9, 13, 10, 13, 11, 11), 0));
    kit.no("cuts of twelve without an end", plan.cuts(a, -1, 0));
  }

  private static void tree() {
    GroundPlan plan = fourTree(0);
    lies(plan, 0, 0, 0, 4, 2);
    lies(plan, 1, 4, 0, 3, 5);
    lies(plan, 2, 0, 2, 2, 3);
    lies(plan, 3, 2, 5, 6, 1);
    kit.due("kind", 3, () -> plan.about(0));
    kit.due("wide", 8, () -> plan.about(1));
    kit.due("high", 6, () -> plan.about(2));
    GroundPlan turned = fourTree(-1);
    lies(turned, 0, 0, 0, 2, 4);
    lies(turned, 1, 2, 0, 3, 5);
    lies(turned, 2, 0, 5, 3, 2);
    lies(turned, 3, 3, 5, 6, 1);
    GroundPlan chain = many(12, false);
    kit.yes("tree of twelve", chain.tree(11, 0xA9876543210FL, -1, 0));
    lies(chain, 0, 77, 0, 1, 2);
    kit.due("told(4)", 0xA9876543210FL | 0xFFFFL << 48, () -> chain.told(4));
    GroundPlan tower = many(12, false);
    kit.yes("tree of twelve", tower.tree(11, -1, 0xA9876543210FL, 0));
    lies(tower, 0, 0, 22, 1, 2);
    GroundPlan one = many(1, false);
    kit.yes("tree of one", one.tree(0, 15, 15, 0));
    kit.no("tree of one that is its own child", one.tree(0, 0, 15, 0));
  }

  private static void treeRefused() {
    GroundPlan plan = fourTree(1);
    long left = Kit.row(1, 15, 3, 15);
    long right = Kit.row(2, 15, 15, 15);
    for (int root : new int[] {-1, 1, 2, 3, 4, 15, 32, FAR}) {
      kit.no("tree of root " + root, plan.tree(root, left, right, 0));
    }
    kit.no("a block is left out", plan.tree(0, Kit.row(1, 15, 15, 15), right, 0));
    kit.no("a block stands twice", plan.tree(0, left, Kit.row(2, 3, 15, 15), 0));
    kit.no("a child that is no block", plan.tree(0, left, Kit.row(4, 15, 15, 15), 0));
    kit.no("a child 12", plan.tree(0, Kit.row(1, 12, 3, 15), right, 0));
    kit.no("a child 14 more", plan.tree(0, Kit.row(1, 14, 3, 15), right, 0));
    kit.no("the root is a child", plan.tree(0, Kit.row(1, 0, 3, 15), Kit.row(2, 15, 15, 15), 0));
    kit.no("a ring aside", plan.tree(0, Kit.row(1, 15, 3, 2), Kit.row(15, 15, 15, 15), 0));
    kit.due("nothing changed", left, () -> plan.told(4));
    kit.due("nothing changed", 1, () -> plan.at(0, 4));
    kit.yes("what stands behind isn't asked", plan.tree(0, 0x0000000F3F1L, 0x7FFF2L, 0));
    kit.due("told with 15s", left, () -> plan.told(4));
    kit.due("told with 15s", right, () -> plan.told(5));
  }

  private static void about() {
    GroundPlan plan = fourPaired(0);
    int[] want = {1, 10, 7, 70, 35, 1, -1, -1};
    for (int what = 0; what < 8; what++) {
      int asked = what;
      kit.due("about(" + what + ")", want[what], () -> plan.about(asked));
    }
    for (int bad : new int[] {-1, 8, FAR, -FAR - 1}) {
      kit.thrown("about(" + bad + ")", () -> plan.about(bad));
    }
    plan.places();
    plan.put(3, 5, 4, false);
    int[] moved = {0, 11, 7, 77, 42, 1, -1, -1};
    for (int what = 0; what < 8; what++) {
      int asked = what;
      kit.due("about(" + what + ") moved", moved[what], () -> plan.about(asked));
    }
    plan.put(3, 5, 3, false);
    kit.due("two clash", 0, () -> plan.about(5));
    kit.due("the first", 2, () -> plan.about(6));
    kit.due("the second", 3, () -> plan.about(7));
    plan.put(0, 2, 3, false);
    kit.due("the first", 0, () -> plan.about(6));
    kit.due("the second", 1, () -> plan.about(7));
    GroundPlan heap = many(3, false);
    heap.places();
    kit.due("less ground than blocks", 6 - 12, () -> heap.about(4));
  }

  private static void at() {
    GroundPlan plan = fourTree(4);
    lies(plan, 2, 0, 2, 3, 2);
    kit.due("at(2, 4)", 1, () -> plan.at(2, 4));
    kit.due("at(3, 4)", 0, () -> plan.at(3, 4));
    for (int bad : new int[] {-1, 5, FAR}) {
      kit.thrown("at(0, " + bad + ")", () -> plan.at(0, bad));
    }
    for (int bad : new int[] {-1, 4, 12, 32, FAR}) {
      kit.thrown("at(" + bad + ", 0)", () -> plan.at(bad, 0));
    }
  }

  private static void told() {
    long[][] want = {
      {Kit.THROWN, Kit.THROWN, Kit.THROWN, Kit.THROWN, Kit.THROWN, Kit.THROWN, Kit.THROWN},
      {Kit.row(1, 0, 2, 3), Kit.row(0, 1, 3, 2), Kit.THROWN, Kit.THROWN, Kit.THROWN, Kit.THROWN, Kit.THROWN},
      {Kit.THROWN, Kit.THROWN, Kit.row(0, 1, 12, 2, 13, 3, 12), -1, Kit.THROWN, Kit.THROWN, Kit.THROWN},
      {Kit.THROWN, Kit.THROWN, Kit.THROWN, Kit.THROWN, Kit.row(1, 15, 3), Kit.row(2), 0}
    };
    GroundPlan gathered = four();
    gathered.places();
    GroundPlan[] plans = {gathered, fourPaired(0), fourCut(0), fourTree(0)};
    for (int kind = 0; kind < 4; kind++) {
      GroundPlan plan = plans[kind];
      for (int what = 0; what < 7; what++) {
        int asked = what;
        kit.due("told(" + what + ") of kind " + kind, want[kind][what], () -> plan.told(asked));
      }
      for (int bad : new int[] {-1, 7, FAR, -FAR - 1}) {
        kit.thrown("told(" + bad + ")", () -> plan.told(bad));
      }
    }
    GroundPlan other = many(2, false);
    other.tree(1, Kit.row(15, 0), -1, 0);
    kit.due("another root", 1, () -> other.told(6));
  }

  private static void slack() {
    GroundPlan plan = fourPaired(0);
    int[][] want = {{0, 0}, {1, 0}, {4, 3}, {0, 3}};
    for (int b = 0; b < 4; b++) {
      for (int what = 0; what < 2; what++) {
        int block = b;
        int asked = what;
        kit.due("slack(" + b + ", " + what + ")", want[b][what], () -> plan.slack(block, asked));
      }
    }
    kit.due("slack leaves the laying", 4, () -> plan.at(2, 0));
    for (int bad : new int[] {-1, 2, FAR}) {
      kit.thrown("slack(0, " + bad + ")", () -> plan.slack(0, bad));
    }
    for (int bad : new int[] {-1, 4, 12, FAR}) {
      kit.thrown("slack(" + bad + ", 0)", () -> plan.slack(bad, 0));
    }
    GroundPlan gathered = four();
    gathered.places();
    for (GroundPlan laid : new GroundPlan[] {gathered, fourCut(0), fourTree(0)}) {
      kit.thrown("slack of another kind", () -> laid.slack(0, 0));
    }
    GroundPlan pushed = new GroundPlan();
    pushed.block(2, 1, false);
    pushed.block(3, 1, false);
    pushed.block(9, 1, false);
    pushed.pair(Kit.row(2, 0, 1), Kit.row(0, 1, 2), 0);
    kit.due("0 pushes 1", 4, () -> pushed.slack(0, 0));
    kit.due("1 slides alone", 4, () -> pushed.slack(1, 0));
    kit.due("2 is as wide as all", 0, () -> pushed.slack(2, 0));
  }

  private static void wires() {
    GroundPlan plan = fourPaired(0);
    kit.due("no nets", 0, () -> plan.wires());
    plan.net(0, 3);
    kit.due("one net", 8, () -> plan.wires());
    plan.net(19, 14);
    kit.due("two nets", 8 + 19, () -> plan.wires());
    plan.net(7, 4);
    kit.due("a net of one", 27, () -> plan.wires());
    plan.net(8, 3);
    kit.due("the same net again", 35, () -> plan.wires());
    plan.net(0, 0);
    kit.due("a net of none", 27, () -> plan.wires());
    GroundPlan far = many(12, false);
    far.places();
    far.put(11, 10000, 10000, false);
    for (int i = 0; i < 20; i++) {
      far.net(i, 1 | 1 << 11);
    }
    kit.due("far wires", 20 * (20000 + 11 + 20000), () -> far.wires());
  }

  private static void from() {
    GroundPlan plan = fourTree(0);
    kit.yes("from()", plan.from());
    kit.due("kind", 1, () -> plan.about(0));
    kit.due("ONE", Kit.row(2, 3, 0, 1), () -> plan.told(0));
    kit.due("TWO", Kit.row(0, 2, 1, 3), () -> plan.told(1));
    GroundPlan turned = fourCut(5);
    kit.yes("from()", turned.from());
    kit.due("turned stay", 1, () -> turned.at(0, 4));
    kit.due("turned stay", 1, () -> turned.at(2, 4));
    kit.due("ONE", Kit.row(2, 0, 1, 3), () -> turned.told(0));
    kit.due("TWO", Kit.row(0, 1, 2, 3), () -> turned.told(1));
    GroundPlan heap = four();
    heap.places();
    kit.no("from() of a clash", heap.from());
    kit.due("nothing changed", 0, () -> heap.about(0));
    kit.due("nothing changed", 0, () -> heap.at(0, 0));
  }

  /** Blocks that are left and below at once go ahead in TWO alone; a gap closes. */
  private static void fromLoose() {
    GroundPlan plan = many(3, false);
    plan.places();
    plan.put(2, 5, 5, false);
    plan.put(1, 20, 20, false);
    plan.put(0, 20, 7, false);
    kit.yes("from()", plan.from());
    kit.due("ONE", Kit.row(1, 0, 2), () -> plan.told(0));
    kit.due("TWO", Kit.row(2, 0, 1), () -> plan.told(1));
    lies(plan, 2, 0, 0, 3, 2);
    lies(plan, 0, 0, 2, 1, 2);
    lies(plan, 1, 0, 4, 2, 2);
    GroundPlan apart = many(2, false);
    apart.places();
    apart.put(0, 9, 0, false);
    apart.put(1, 0, 9, false);
    kit.yes("from()", apart.from());
    kit.due("ONE", Kit.row(1, 0), () -> apart.told(0));
    kit.due("TWO", Kit.row(0, 1), () -> apart.told(1));
    GroundPlan pair = fourPaired(0);
    pair.pair(Kit.row(3, 2, 1, 0), Kit.row(3, 2, 1, 0), 0);
    kit.yes("from() of a pair", pair.from());
    kit.due("ONE", Kit.row(3, 2, 1, 0), () -> pair.told(0));
  }

  private static void isCut() {
    kit.yes("cuts are cut", fourCut(0).isCut());
    GroundPlan one = many(1, false);
    one.places();
    kit.yes("one is cut", one.isCut());
    GroundPlan wheel = new GroundPlan();
    int[][] sides = {{2, 1}, {1, 2}, {2, 1}, {1, 2}, {1, 1}};
    int[][] spots = {{0, 0}, {2, 0}, {1, 2}, {0, 1}, {1, 1}};
    for (int[] side : sides) {
      wheel.block(side[0], side[1], false);
    }
    wheel.places();
    kit.no("a heap is not cut", wheel.isCut());
    for (int b = 0; b < 5; b++) {
      wheel.put(b, spots[b][0], spots[b][1], false);
    }
    kit.no("a wheel is not cut", wheel.isCut());
    wheel.block(1, 3, false);
    wheel.places();
    for (int b = 0; b < 5; b++) {
      wheel.put(b, spots[b][0], spots[b][1], false);
    }
    wheel.put(5, 3, 0, false);
    kit.no("a wheel beside a block is not cut", wheel.isCut());
    wheel.put(1, 500, 0, false);
    kit.yes("a broken wheel is cut", wheel.isCut());
    wheel.put(5, 500, 1, false);
    kit.no("a clash is not cut", wheel.isCut());
    kit.due("isCut leaves the laying", 0, () -> wheel.about(0));
  }

  private static void normal() {
    GroundPlan plan = four();
    plan.cuts(Kit.row(0, 1, 2, 3, BESIDE, BESIDE, BESIDE), 0, 5);
    int x = plan.at(3, 0);
    kit.due("normal()", 3, () -> plan.normal());
    kit.due("the row", Kit.row(0, 1, BESIDE, 2, BESIDE, 3, BESIDE), () -> plan.told(2));
    kit.due("x as before", x, () -> plan.at(3, 0));
    kit.due("turned as before", 1, () -> plan.at(0, 4));
    kit.due("normal() again", 0, () -> plan.normal());
    plan.cuts(Kit.row(0, 1, ABOVE, 2, 3, ABOVE, ABOVE), 0, 0);
    kit.due("normal() of two pairs", 2, () -> plan.normal());
    kit.due("the row", Kit.row(0, 1, ABOVE, 2, ABOVE, 3, ABOVE), () -> plan.told(2));
    plan.cuts(Kit.row(0, 1, 2, ABOVE, 3, ABOVE, ABOVE), 0, 0);
    kit.due("normal() within", 4, () -> plan.normal());
    kit.due("the row", Kit.row(0, 1, ABOVE, 2, ABOVE, 3, ABOVE), () -> plan.told(2));
    plan.cuts(Kit.row(0, 1, 2, 3, BESIDE, ABOVE, BESIDE), 0, 0);
    kit.due("normal() of a normal row", 0, () -> plan.normal());
    plan.cuts(Kit.row(3, 0, 1, 2, ABOVE, BESIDE, BESIDE), 0, 0);
    kit.due("normal() round a part", 4, () -> plan.normal());
    kit.due("the row", Kit.row(3, 0, BESIDE, 1, 2, ABOVE, BESIDE), () -> plan.told(2));
    kit.due("kind", 2, () -> plan.about(0));
    kit.thrown("normal() of a pair", () -> fourPaired(0).normal());
    kit.thrown("normal() of a tree", () -> fourTree(0).normal());
  }

  private static void curve() {
    GroundPlan plan = fourCut(5);
    kit.due("curve() of 11 by 7 alone", 1, () -> plan.curve());
    kit.due("curve leaves the laying", 1, () -> plan.at(0, 4));
    GroundPlan single = new GroundPlan();
    single.block(5, 5, true);
    single.cuts(0, 0, 0);
    kit.due("a square", 1, () -> single.curve());
    GroundPlan bar = new GroundPlan();
    bar.block(5, 6, true);
    bar.cuts(0, 0, 0);
    kit.due("a bar", 2, () -> bar.curve());
    kit.thrown("curve() of a pair", () -> fourPaired(0).curve());
    kit.thrown("curve() of a tree", () -> fourTree(0).curve());
    plan.places();
    kit.thrown("curve() of places", () -> plan.curve());
  }

  /** 4 by 2 and 3 by 5: 7 by 5, of the four ways to turn them, is wider than 5 by 5. */
  private static void shape() {
    GroundPlan plan = new GroundPlan();
    plan.block(4, 2, true);
    plan.block(3, 5, true);
    plan.cuts(Kit.row(0, 1, BESIDE), 0, 0);
    kit.due("curve()", 3, () -> plan.curve());
    kit.due("shape(0, 0)", 5, () -> plan.shape(0, 0));
    kit.due("shape(0, 1)", 5, () -> plan.shape(0, 1));
    kit.due("shape(1, 0)", 7, () -> plan.shape(1, 0));
    kit.due("shape(1, 1)", 4, () -> plan.shape(1, 1));
    kit.due("shape(2, 0)", 9, () -> plan.shape(2, 0));
    kit.due("shape(2, 1)", 3, () -> plan.shape(2, 1));
    for (int bad : new int[] {-1, 3, FAR, -FAR - 1}) {
      kit.thrown("shape(" + bad + ", 0)", () -> plan.shape(bad, 0));
    }
    for (int bad : new int[] {-1, 2, FAR}) {
      kit.thrown("shape(0, " + bad + ")", () -> plan.shape(0, bad));
    }
    kit.thrown("shape of a pair", () -> fourPaired(0).shape(0, 0));
    kit.thrown("shape of a tree", () -> fourTree(0).shape(0, 0));
    plan.cuts(Kit.row(0, 1, ABOVE), 0, 0);
    kit.due("curve() above", 3, () -> plan.curve());
    kit.due("shape(0, 0) above", 3, () -> plan.shape(0, 0));
    kit.due("shape(0, 1) above", 9, () -> plan.shape(0, 1));
    kit.due("shape(1, 0) above", 4, () -> plan.shape(1, 0));
    kit.due("shape(1, 1) above", 7, () -> plan.shape(1, 1));
    kit.due("shape(2, 0) above", 5, () -> plan.shape(2, 0));
    kit.due("shape(2, 1) above", 5, () -> plan.shape(2, 1));
  }

  private static void best() {
    GroundPlan plan = new GroundPlan();
    plan.block(4, 2, true);
    plan.block(3, 5, true);
    plan.block(7, 7, true);
    plan.cuts(Kit.row(0, 1, BESIDE, 2, ABOVE), 0, 7);
    kit.due("curve() of 7 by 11 and 9 by 10", 2, () -> plan.curve());
    kit.due("best(1), the square not turned", 2, () -> plan.best(1));
    kit.due("best(0), the square not turned", 3, () -> plan.best(0));
    GroundPlan two = new GroundPlan();
    two.block(4, 2, true);
    two.block(3, 5, true);
    two.cuts(Kit.row(0, 1, BESIDE), 0, 3);
    int[] want = {1, 3, 2};
    for (int i = 0; i < 3; i++) {
      int asked = i;
      int wide = two.shape(i, 0);
      int high = two.shape(i, 1);
      kit.due("best(" + i + ")", want[i], () -> two.best(asked));
      kit.due("its wide", wide, () -> two.about(1));
      kit.due("its high", high, () -> two.about(2));
      kit.due("its kind", 2, () -> two.about(0));
      kit.due("its first turned", want[i] & 1, () -> two.at(0, 4));
      kit.due("its second turned", want[i] >> 1, () -> two.at(1, 4));
    }
    for (int bad : new int[] {-1, 3, FAR, -FAR - 1}) {
      kit.thrown("best(" + bad + ")", () -> two.best(bad));
    }
    kit.due("nothing changed", 1, () -> two.at(1, 4));
    kit.due("nothing changed", 0, () -> two.at(0, 4));
    kit.thrown("best of a pair", () -> fourPaired(0).best(0));
    kit.thrown("best of a tree", () -> fourTree(0).best(0));
  }

  private static void swap() {
    GroundPlan plan = fourPaired(4);
    kit.yes("swap(0, 0, 3)", plan.swap(0, 0, 3));
    kit.due("ONE", Kit.row(3, 0, 2, 1), () -> plan.told(0));
    kit.due("TWO", Kit.row(0, 1, 3, 2), () -> plan.told(1));
    lies(plan, 0, 0, 0, 4, 2);
    lies(plan, 1, 4, 0, 3, 5);
    lies(plan, 2, 6, 5, 3, 2);
    lies(plan, 3, 0, 5, 6, 1);
    kit.yes("swap(1, 1, 2)", plan.swap(1, 1, 2));
    kit.due("TWO", Kit.row(0, 3, 1, 2), () -> plan.told(1));
    kit.due("turned as before", 1, () -> plan.at(2, 4));
    kit.yes("a place with itself", plan.swap(1, 1, 1));
    kit.due("TWO as before", Kit.row(0, 3, 1, 2), () -> plan.told(1));
    int[][] bad = {{-1, 0, 1}, {2, 0, 1}, {0, -1, 0}, {0, 0, 4}, {1, 4, 0}, {1, 0, -1}, {0, FAR, 0}};
    for (int[] call : bad) {
      kit.no("a bad swap", plan.swap(call[0], call[1], call[2]));
    }
    kit.due("ONE as before", Kit.row(3, 0, 2, 1), () -> plan.told(0));
    plan.places();
    kit.no("swap in places", plan.swap(0, 0, 1));
    kit.no("swap in cuts", fourCut(0).swap(0, 0, 1));
    kit.no("swap in a tree", fourTree(0).swap(0, 0, 1));
  }

  private static void least() {
    GroundPlan plan = new GroundPlan();
    plan.block(3, 2, true);
    for (int kind = 1; kind <= 3; kind++) {
      int asked = kind;
      kit.due("least(" + kind + ") of one", 6, () -> plan.least(asked));
      kit.due("its kind", kind, () -> plan.about(0));
      kit.due("not turned", 0, () -> plan.at(0, 4));
    }
    plan.block(1, 2, true);
    kit.due("least(1)", 8, () -> plan.least(1));
    kit.due("ONE", Kit.row(0, 1), () -> plan.told(0));
    kit.due("TWO", Kit.row(0, 1), () -> plan.told(1));
    kit.due("least(2)", 8, () -> plan.least(2));
    kit.due("row", Kit.row(0, 1, BESIDE), () -> plan.told(2));
    kit.due("least(3)", 8, () -> plan.least(3));
    kit.due("LEFT", Kit.row(1), () -> plan.told(4));
    kit.due("RIGHT", -1, () -> plan.told(5));
    kit.due("root", 0, () -> plan.told(6));
    for (int bad : new int[] {0, 4, -1, FAR, -FAR - 1}) {
      kit.thrown("least(" + bad + ")", () -> plan.least(bad));
    }
    plan.places();
    plan.block(9, 9, false);
    plan.block(9, 9, false);
    plan.block(9, 9, false);
    plan.places();
    kit.due("least of five", -1, () -> plan.least(1));
    kit.due("least of five leaves the laying", 0, () -> plan.about(0));
    kit.thrown("least(0) of five", () -> plan.least(0));
    kit.thrown("least(0) of none", () -> new GroundPlan().least(0));
    kit.due("least of none", -1, () -> new GroundPlan().least(3));
  }

  /** 2 by 1 (may turn) and 1 by 3 (may not): turned, they make a tower of 5. */
  private static void leastFirst() {
    GroundPlan plan = new GroundPlan();
    plan.block(2, 1, true);
    plan.block(1, 3, false);
    kit.due("least(1)", 5, () -> plan.least(1));
    kit.due("ONE", Kit.row(0, 1), () -> plan.told(0));
    kit.due("TWO", Kit.row(1, 0), () -> plan.told(1));
    kit.due("turned", 1, () -> plan.at(0, 4));
    kit.due("least(2)", 5, () -> plan.least(2));
    kit.due("row", Kit.row(0, 1, ABOVE), () -> plan.told(2));
    kit.due("turned", 1, () -> plan.at(0, 4));
    kit.due("least(3)", 5, () -> plan.least(3));
    kit.due("LEFT", -1, () -> plan.told(4));
    kit.due("RIGHT", Kit.row(1), () -> plan.told(5));
    kit.due("turned", 1, () -> plan.at(0, 4));
  }

  private static void leastEnds() {
    GroundPlan plan = new GroundPlan();
    plan.block(3, 2, false);
    kit.thrown("least(9)", () -> plan.least(9));
    for (int i = 0; i < 60; i++) {
      int kind = 1 + i % 3;
      kit.due("least " + i, 6, () -> plan.least(kind));
      if (i == 30) {
        for (int b = 0; b < 4; b++) {
          plan.block(1, 1, false);
        }
        kit.due("least of five does not count", -1, () -> plan.least(1));
        for (int b = 0; b < 4; b++) {
          plan.less();
        }
      }
    }
    plan.places();
    for (int kind = 1; kind <= 3; kind++) {
      int asked = kind;
      kit.due("least after sixty", -2, () -> plan.least(asked));
      kit.due("nothing changes", 0, () -> plan.about(0));
    }
    kit.thrown("least(4) after sixty", () -> plan.least(4));
    kit.due("another object's", 6, () -> fresh().least(1));
    plan.less();
    kit.due("least of none after sixty", -1, () -> plan.least(1));
  }

  private static GroundPlan fresh() {
    GroundPlan plan = new GroundPlan();
    plan.block(3, 2, false);
    return plan;
  }

  private static void count() {
    GroundPlan plan = new GroundPlan();
    long[][] want = {
      {1, 4, 36, 576, 14400, 518400, 25401600, 1625702400L, 131681894400L, 13168189440000L},
      {1, 4, 36, 528, 10800, 283680, 9102240, 345058560, 15090727680L, 747888422400L},
      {1, 4, 30, 336, 5040, 95040, 2162160, 57657600, 1764322560, 60949324800L}
    };
    for (int kind = 1; kind <= 3; kind++) {
      for (int n = 1; n <= 10; n++) {
        int k = kind;
        int blocks = n;
        kit.due("count(" + kind + ", " + n + ")", want[kind - 1][n - 1], () -> plan.count(k, blocks));
      }
      for (int bad : new int[] {0, 11, -1, FAR, -FAR - 1}) {
        int k = kind;
        kit.due("count(" + kind + ", " + bad + ")", -1, () -> plan.count(k, bad));
      }
    }
    for (int bad : new int[] {0, 4, -1, FAR}) {
      kit.thrown("count(" + bad + ", 3)", () -> plan.count(bad, 3));
      kit.thrown("count(" + bad + ", 0)", () -> plan.count(bad, 0));
    }
  }

  private static void rank() {
    GroundPlan plan = fourPaired(5);
    kit.due("rank()", 6 * 24 + 1, () -> plan.rank());
    plan.pair(Kit.row(3, 2, 1, 0), Kit.row(3, 2, 1, 0), 0);
    kit.due("the last rank", 575, () -> plan.rank());
    plan.pair(Kit.row(0, 1, 2, 3), Kit.row(0, 1, 2, 3), 0);
    kit.due("the first rank", 0, () -> plan.rank());
    plan.places();
    kit.thrown("rank() of places", () -> plan.rank());
    kit.thrown("rank() of cuts", () -> fourCut(0).rank());
    kit.thrown("rank() of a tree", () -> fourTree(0).rank());
    GroundPlan twelve = many(12, false);
    twelve.pair(0x0123456789ABL, 0x0123456789ABL, 0);
    kit.due("the last rank of twelve", 479001600L * 479001600L - 1, () -> twelve.rank());
  }

  private static void of() {
    GroundPlan plan = fourPaired(5);
    kit.yes("of(145)", plan.of(145));
    kit.due("ONE", Kit.row(1, 0, 2, 3), () -> plan.told(0));
    kit.due("TWO", Kit.row(0, 1, 3, 2), () -> plan.told(1));
    kit.due("none turned", 0, () -> plan.at(0, 4));
    lies(plan, 2, 4, 1, 2, 3);
    for (long bad : new long[] {-1, 576, Long.MAX_VALUE, Long.MIN_VALUE}) {
      kit.no("of(" + bad + ")", plan.of(bad));
    }
    kit.due("nothing changed", 145, () -> plan.rank());
    kit.yes("of(575)", plan.of(575));
    kit.due("ONE", Kit.row(3, 2, 1, 0), () -> plan.told(0));
    kit.yes("of(0)", plan.of(0));
    kit.due("ONE", Kit.row(0, 1, 2, 3), () -> plan.told(0));
    GroundPlan twelve = many(12, true);
    long all = 479001600L * 479001600L;
    kit.no("of too high a rank", twelve.of(all));
    kit.yes("of the last rank", twelve.of(all - 1));
    kit.due("TWO", 0x0123456789ABL | 0xFFFFL << 48, () -> twelve.told(1));
    kit.due("kind", 1, () -> twelve.about(0));
  }
}
