import java.util.List;
import java.util.function.Supplier;

/** Boundary cases of the document's terms. */
final class TermsEdges {
  private static final int BESIDE = Plans.BESIDE;
  private static final int ABOVE = Plans.ABOVE;

  private final Edge edge;

  TermsEdges(Edge edge) {
    this.edge = edge;
  }

  void run() {
    lastCall();
    noneIsNone();
    blockNumbers();
    turnedSides();
    noLayingAtFirst();
    placesFromZero();
    wideAndHigh();
    endOfLaying();
    leftOf();
    below();
    clash();
    pairWays();
    pairPlaces();
    cutParts();
    cutPlaces();
    normalRows();
    treeBlocks();
    treeOrder();
    treeAcross();
    treeUp();
    treeSoFar();
    behindOrders();
    behindRows();
    behindChildren();
    fromOne();
    fromTwo();
    fromTies();
    fromWaiting();
    fromTurned();
  }

  private void lastCall() {
    edge.hold(0, "An object is used for at most 512 calls after it has been made");
    GroundPlan plan = Plans.of(3, 2, 2, 4);
    plan.pair(Kit.row(0, 1), Kit.row(0, 1), 0);
    for (int call = 3; call < 511; call++) {
      plan.swap(call & 1, 0, 1);
    }
    edge.due("rank(), the 512th call", 0, plan, p -> p.rank());
  }

  private void noneIsNone() {
    edge.hold(0, "NONE = -1");
    edge.due("NONE", -1, Plans.empty(), p -> GroundPlan.NONE);
  }

  private void blockNumbers() {
    edge.hold(0, "BLOCKS 0 to 11: each with a width and a height, 1 to 200");
    GroundPlan plan = Plans.empty();
    for (int i = 0; i < 12; i++) {
      int number = i;
      edge.due("block " + i, i, plan, p -> p.block(1, 200, false));
      edge.due("side(" + i + ", 0)", 1, plan, p -> p.side(number, 0));
      edge.due("side(" + i + ", 1)", 200, plan, p -> p.side(number, 1));
      edge.due("side(" + (i + 1) + ", 0)", Edge.THROWS, plan, p -> p.side(number + 1, 0));
    }
    edge.due("block 12", Edge.NONE, plan, p -> p.block(1, 200, false));
    edge.due("side(12, 0)", Edge.THROWS, plan, p -> p.side(12, 0));
    edge.hold(0, "NETS 0 to 19");
    edge.due("net(-1, 1)", Edge.THROWS, plan, p -> p.net(-1, 1));
    edge.due("net(0, 1)", 1, plan, p -> p.net(0, 1));
    edge.due("net(19, 3)", 2, plan, p -> p.net(19, 3));
    edge.due("net(20, 1)", Edge.THROWS, plan, p -> p.net(20, 1));
  }

  private void turnedSides() {
    edge.hold(0, "some may be TURNED (width and height change places)");
    GroundPlan plan = Plans.turning(1, 200);
    plan.block(200, 1, false);
    plan.pair(Kit.row(0, 1), Kit.row(0, 1), 3);
    edge.sized(plan, 0, 200, 1);
    edge.sized(plan, 1, 200, 1);
    plan.cuts(Kit.row(0, 1, ABOVE), 0, 3);
    edge.sized(plan, 0, 200, 1);
    edge.lies(plan, 1, 0, 1);
    plan.tree(0, Kit.row(1), -1, 3);
    edge.sized(plan, 0, 200, 1);
    edge.lies(plan, 1, 200, 0);
    plan.tree(0, Kit.row(1), -1, 0);
    edge.sized(plan, 0, 1, 200);
    plan.places();
    plan.put(0, 0, 0, true);
    edge.sized(plan, 0, 200, 1);
    plan.put(0, 0, 0, false);
    edge.sized(plan, 0, 1, 200);
  }

  private void noLayingAtFirst() {
    edge.hold(0, "A LAYING (none at first)");
    edge.noLaying(Plans.empty());
    edge.noLaying(Plans.four());
    edge.noLaying(Plans.many(12, true));
  }

  private void placesFromZero() {
    edge.hold(0, "a place (x, y of its lower left corner, 0 or more)");
    GroundPlan plan = Plans.of(3, 2, 2, 4);
    plan.places();
    edge.due("put(1, 0, 0, false)", Edge.YES, plan, p -> Edge.one(p.put(1, 0, 0, false)));
    edge.due("put(1, -1, 0, false)", Edge.NO, plan, p -> Edge.one(p.put(1, -1, 0, false)));
    edge.due("put(1, 0, -1, false)", Edge.NO, plan, p -> Edge.one(p.put(1, 0, -1, false)));
    edge.lies(plan, 1, 0, 0);
  }

  private void wideAndHigh() {
    edge.hold(0, "WIDE, HIGH: the greatest x and width, y and height, of all; GROUND their product");
    GroundPlan plan = Plans.of(50, 1, 1, 60, 2, 2);
    plan.places();
    plan.put(2, 48, 58, false);
    edge.due("about(1), the last ones end together", 50, plan, p -> p.about(1));
    edge.due("about(2)", 60, plan, p -> p.about(2));
    plan.put(2, 49, 57, false);
    edge.due("about(1), the later begins later", 51, plan, p -> p.about(1));
    edge.due("about(2)", 60, plan, p -> p.about(2));
    plan.put(2, 47, 59, false);
    edge.due("about(1), the later begins later and ends sooner", 50, plan, p -> p.about(1));
    edge.due("about(2)", 61, plan, p -> p.about(2));
    edge.due("about(3)", 50 * 61, plan, p -> p.about(3));
    GroundPlan far = Plans.of(200, 200);
    far.places();
    far.put(0, 10000, 10000, false);
    edge.due("about(1) of the farthest", 10200, far, p -> p.about(1));
    edge.due("about(2) of the farthest", 10200, far, p -> p.about(2));
    edge.due("about(3) of the farthest", 10200 * 10200, far, p -> p.about(3));
    edge.due("about(4) of the farthest", 10200 * 10200 - 40000, far, p -> p.about(4));
  }

  private void endOfLaying() {
    edge.hold(0, "A BLOCK that is new, or gone, ends the LAYING.");
    List<Supplier<GroundPlan>> makes =
        List.of(Plans::fourPlaced, Plans::fourPaired, Plans::fourCut, Plans::fourTree);
    for (Supplier<GroundPlan> make : makes) {
      GroundPlan more = make.get();
      more.block(1, 1, false);
      edge.noLaying(more);
      GroundPlan fewer = make.get();
      fewer.less();
      edge.noLaying(fewer);
      GroundPlan again = make.get();
      again.block(1, 1, false);
      again.less();
      edge.noLaying(again);
      again.places();
      edge.lies(again, 1, 0, 0);
      edge.turned(again, 4, 0);
      GroundPlan refused = make.get();
      refused.block(1, 201, false);
      edge.same("a refused block, then ", refused, make.get());
    }
  }

  private void clashDue(int first, int second, GroundPlan plan) {
    edge.due("about(5)", first == -1 ? 1 : 0, plan, p -> p.about(5));
    edge.due("about(6)", first, plan, p -> p.about(6));
    edge.due("about(7)", second, plan, p -> p.about(7));
  }

  private void leftOf() {
    edge.hold(0, "a is LEFT of b: x of a and its width are at most x of b");
    clashDue(0, 1, Plans.two(2, 4, 2, 0));
    clashDue(-1, -1, Plans.two(2, 4, 3, 0));
    clashDue(-1, -1, Plans.two(2, 4, 4, 0));
    GroundPlan plan = Plans.two(2, 4, 0, 0);
    plan.put(0, 1, 0, false);
    clashDue(0, 1, plan);
    plan.put(0, 2, 0, false);
    clashDue(-1, -1, plan);
  }

  private void below() {
    edge.hold(0, "BELOW likewise by y and height");
    clashDue(0, 1, Plans.two(2, 4, 0, 1));
    clashDue(-1, -1, Plans.two(2, 4, 0, 2));
    clashDue(-1, -1, Plans.two(2, 4, 0, 3));
    GroundPlan plan = Plans.two(2, 4, 0, 0);
    plan.put(0, 0, 3, false);
    clashDue(0, 1, plan);
    plan.put(0, 0, 4, false);
    clashDue(-1, -1, plan);
  }

  private void clash() {
    edge.hold(0, "Two CLASH if neither is LEFT of or BELOW the other one.");
    clashDue(-1, -1, Plans.two(2, 4, 3, 2));
    clashDue(0, 1, Plans.two(2, 4, 2, 1));
    clashDue(0, 1, Plans.two(1, 1, 1, 1));
    clashDue(0, 1, Plans.two(3, 2, 0, 0));
    GroundPlan cross = Plans.of(9, 1, 1, 9);
    cross.places();
    cross.put(0, 0, 4, false);
    cross.put(1, 4, 0, false);
    clashDue(0, 1, cross);
    GroundPlan one = Plans.of(9, 1);
    one.places();
    clashDue(-1, -1, one);
  }

  private void pairWays() {
    edge.hold(0, "If a is ahead of b in both, it must be LEFT of it; if it is ahead of it in TWO alone, BELOW.");
    long up = Kit.row(0, 1);
    long down = Kit.row(1, 0);
    GroundPlan plan = Plans.of(3, 2, 2, 4);
    plan.pair(up, up, 0);
    edge.lies(plan, 0, 0, 0);
    edge.lies(plan, 1, 3, 0);
    plan.pair(down, up, 0);
    edge.lies(plan, 0, 0, 0);
    edge.lies(plan, 1, 0, 2);
    plan.pair(up, down, 0);
    edge.lies(plan, 0, 0, 4);
    edge.lies(plan, 1, 0, 0);
    plan.pair(down, down, 0);
    edge.lies(plan, 0, 2, 0);
    edge.lies(plan, 1, 0, 0);
  }

  /** Block 2 behind both others: the wide one counts, though the narrow one is the nearer. */
  private void pairPlaces() {
    edge.hold(0, "x of a BLOCK: the greatest x and width of those that must be LEFT of it (0 without); y likewise.");
    GroundPlan plan = Plans.of(7, 1, 2, 6, 1, 1);
    plan.pair(Kit.row(1, 0, 2), Kit.row(0, 1, 2), 0);
    edge.lies(plan, 0, 0, 0);
    edge.lies(plan, 1, 0, 1);
    edge.lies(plan, 2, 7, 0);
    plan.pair(Kit.row(2, 1, 0), Kit.row(1, 0, 2), 0);
    edge.lies(plan, 1, 0, 0);
    edge.lies(plan, 0, 2, 0);
    edge.lies(plan, 2, 0, 6);
    GroundPlan twelve = Plans.many(12, false);
    twelve.pair(Plans.DOWN, Plans.UP, 0);
    edge.lies(twelve, 11, 0, 22);
    twelve.pair(Plans.UP, Plans.UP, 0);
    edge.lies(twelve, 11, 66, 0);
    edge.lies(twelve, 0, 0, 0);
  }

  private void refusedRow(int size, int... tokens) {
    long a = Kit.row(tokens);
    GroundPlan plan = Plans.many(size, false);
    edge.no("cuts of " + Long.toHexString(a), plan.cuts(a, -1, 0));
    edge.noLaying(plan);
  }

  private void takenRow(int size, int... tokens) {
    long a = Kit.row(tokens);
    GroundPlan plan = Plans.many(size, false);
    edge.yes("cuts of " + Long.toHexString(a), plan.cuts(a, -1, 0));
    edge.due("told(2)", a, plan, p -> p.told(2));
  }

  private void cutParts() {
    edge.hold(0, "a row of TOKENS: numbers of BLOCKS, 12 (BESIDE), 13 (ABOVE): each BLOCK once");
    takenRow(2, 0, 1, 12);
    takenRow(2, 1, 0, 13);
    refusedRow(2, 0, 1, 11);
    refusedRow(2, 0, 1, 14);
    refusedRow(2, 0, 1, 15);
    refusedRow(2, 0, 2, 12);
    refusedRow(2, 0, 0, 12);
    refusedRow(2, 0, 15, 12);
    refusedRow(3, 0, 1, 12);
    refusedRow(3, 0, 1, 12, 1, 12);
    refusedRow(3, 0, 1, 12, 3, 12);
    takenRow(3, 0, 1, 12, 2, 12);
    edge.hold(0, "BESIDE, ABOVE make one part of the latest two (first, second)");
    refusedRow(1, 12);
    refusedRow(2, 12, 0, 1);
    refusedRow(2, 0, 12, 1);
    refusedRow(3, 0, 12, 1, 2, 13);
    refusedRow(3, 0, 1, 12, 13, 2);
    takenRow(3, 0, 1, 2, 13, 12);
    edge.hold(0, "one part is left at the end");
    refusedRow(2, 0, 1);
    refusedRow(2, 0, 1, 0);
    refusedRow(3, 0, 1, 2, 12, 15);
    refusedRow(3, 0, 1, 12, 2, 15);
    takenRow(3, 2, 1, 13, 0, 13);
    takenRow(1, 0);
  }

  private void cutPlaces() {
    edge.hold(0, "the second stands at the first's WIDE (at its HIGH), at the same y (x)");
    GroundPlan plan = Plans.of(3, 2, 2, 4, 5, 1);
    plan.cuts(Kit.row(0, 1, BESIDE, 2, ABOVE), -1, 0);
    edge.lies(plan, 1, 3, 0);
    edge.lies(plan, 2, 0, 4);
    plan.cuts(Kit.row(0, 1, ABOVE, 2, BESIDE), -1, 0);
    edge.lies(plan, 1, 0, 2);
    edge.lies(plan, 2, 3, 0);
    plan.cuts(Kit.row(2, 0, 1, ABOVE, BESIDE), -1, 0);
    edge.lies(plan, 2, 0, 0);
    edge.lies(plan, 0, 5, 0);
    edge.lies(plan, 1, 5, 2);
    plan.cuts(Kit.row(2, 0, 1, BESIDE, ABOVE), -1, 0);
    edge.lies(plan, 0, 0, 1);
    edge.lies(plan, 1, 3, 1);
    plan.cuts(Kit.row(1, 0, BESIDE, 2, ABOVE), -1, 0);
    edge.lies(plan, 2, 0, 4);
    plan.cuts(Kit.row(0, 2, ABOVE, 1, BESIDE), -1, 0);
    edge.lies(plan, 1, 5, 0);
    plan.cuts(Kit.row(2, 0, ABOVE, 1, BESIDE), -1, 0);
    edge.lies(plan, 1, 5, 0);
    plan.cuts(Kit.row(0, 1, BESIDE, 2, BESIDE), -1, 0);
    edge.lies(plan, 2, 5, 0);
    plan.cuts(Kit.row(0, 1, ABOVE, 2, ABOVE), -1, 0);
    edge.lies(plan, 2, 0, 6);
  }

  private void changedBy(int changed, int... tokens) {
    GroundPlan plan = Plans.four();
    long a = Kit.row(tokens);
    plan.cuts(a, -1, 0);
    edge.due("normal() of " + Long.toHexString(a), changed, plan, p -> p.normal());
  }

  private void normalRows() {
    edge.hold(0, "NORMAL: no second part of a BESIDE ends in BESIDE, of an ABOVE none in ABOVE.");
    changedBy(0, 0, 1, 12, 2, 12, 3, 12);
    changedBy(0, 0, 1, 13, 2, 13, 3, 13);
    changedBy(0, 0, 1, 2, 13, 12, 3, 12);
    changedBy(0, 0, 1, 2, 3, 12, 13, 12);
    changedBy(0, 0, 1, 12, 2, 3, 12, 13);
    changedBy(0, 0, 1, 13, 2, 3, 13, 12);
    changedBy(2, 0, 1, 12, 2, 3, 12, 12);
    changedBy(2, 0, 1, 13, 2, 3, 13, 13);
    changedBy(2, 0, 1, 2, 12, 12, 3, 13);
  }

  private void treeDue(boolean due, int root, long left, long right) {
    GroundPlan plan = Plans.many(3, false);
    boolean got = plan.tree(root, left, right, 0);
    String told = Long.toHexString(left) + ", " + Long.toHexString(right);
    edge.due("tree(" + root + ", " + told + ", 0)", due ? 1 : 0, plan, p -> Edge.one(got));
    if (!due) {
      edge.noLaying(plan);
    }
  }

  private void treeBlocks() {
    edge.hold(0, "a root, and for each BLOCK perhaps a LEFT child, a RIGHT one: each BLOCK once in all");
    treeDue(true, 0, Kit.row(1), Kit.row(2));
    treeDue(true, 2, Kit.row(15, 15, 1), Kit.row(15, 0));
    treeDue(true, 1, -1, Kit.row(2, 0));
    treeDue(false, 0, Kit.row(1), -1);
    treeDue(false, 0, Kit.row(1), Kit.row(1));
    treeDue(false, 0, Kit.row(1), Kit.row(1, 2));
    treeDue(false, 0, Kit.row(1, 2), Kit.row(2));
    treeDue(false, 0, Kit.row(1, 2, 0), -1);
    treeDue(false, 0, Kit.row(1, 15, 2), -1);
    treeDue(false, 0, Kit.row(0, 2), -1);
    treeDue(false, 1, Kit.row(1), Kit.row(2));
    treeDue(false, 3, Kit.row(1, 2, 15, 0), -1);
    treeDue(false, 0, Kit.row(1, 3), Kit.row(2));
  }

  /** 2 under LEFT of 0 is laid ahead of 3, its RIGHT child: 3 stands on both. */
  private void treeOrder() {
    edge.hold(0, "a BLOCK ahead of all under its LEFT child, these ahead of all under its RIGHT one");
    GroundPlan plan = Plans.of(2, 1, 2, 5, 2, 3, 9, 1);
    plan.tree(0, Kit.row(1), Kit.row(3, 2), 0);
    edge.lies(plan, 1, 2, 0);
    edge.lies(plan, 2, 2, 5);
    edge.lies(plan, 3, 0, 8);
    plan.tree(0, Kit.row(3), Kit.row(1, 15, 15, 2), 0);
    edge.lies(plan, 3, 2, 0);
    edge.lies(plan, 2, 2, 1);
    edge.lies(plan, 1, 0, 1);
  }

  private void treeAcross() {
    edge.hold(0, "the root's x is 0; a LEFT child's its parent's x and width; a RIGHT child's its parent's x");
    GroundPlan plan = Plans.of(3, 1, 4, 1, 5, 1, 6, 1);
    plan.tree(2, Kit.row(15, 3, 1), Kit.row(15, 0), 0);
    edge.lies(plan, 2, 0, 0);
    edge.lies(plan, 1, 5, 0);
    edge.lies(plan, 3, 9, 0);
    edge.lies(plan, 0, 5, 1);
  }

  /** The RIGHT child 2 meets the LEFT one, from 4 on, in its end alone, or in one more. */
  private void treeUp() {
    edge.hold(0, "whose widths have more than an end in common with its own (0 without)");
    int[] widths = {3, 4, 5};
    int[] ys = {2, 2, 7};
    for (int i = 0; i < 3; i++) {
      GroundPlan plan = Plans.of(4, 2, 3, 7, widths[i], 1);
      plan.tree(0, Kit.row(1), Kit.row(2), 0);
      edge.lies(plan, 0, 0, 0);
      edge.lies(plan, 1, 4, 0);
      edge.lies(plan, 2, 0, ys[i]);
    }
    GroundPlan chain = Plans.of(4, 2, 3, 7, 5, 1);
    chain.tree(0, Kit.row(1, 2), -1, 0);
    edge.lies(chain, 2, 7, 0);
  }

  private void treeSoFar() {
    edge.hold(0, "y: the greatest y and height of those so far");
    GroundPlan later = Plans.of(2, 1, 9, 3, 2, 2);
    later.tree(0, Kit.row(2), Kit.row(1), 0);
    edge.lies(later, 2, 2, 0);
    edge.lies(later, 1, 0, 2);
    GroundPlan tall = Plans.of(2, 9, 2, 1, 4, 1);
    tall.tree(0, Kit.row(1), Kit.row(2), 0);
    edge.lies(tall, 2, 0, 9);
    GroundPlan tower = Plans.many(12, false);
    tower.tree(0, -1, 0xBA987654321L | -1L << 44, 0);
    edge.lies(tower, 11, 0, 22);
  }

  private void behindOrders() {
    edge.hold(0, "what stands behind the last one isn't asked, and told with 15s");
    for (int size = 1; size <= 12; size++) {
      long behind = -1L << 4 * size;
      long up = Plans.UP & ~behind;
      GroundPlan plan = Plans.many(size, false);
      for (long junk = 0; junk < 16; junk++) {
        long noise = junk * 0x1111111111111111L & behind;
        long other = ~noise & behind;
        edge.yes("pair with " + junk + " behind", plan.pair(up | noise, up | other, 0));
        edge.due("told(0)", up | behind, plan, p -> p.told(0));
        edge.due("told(1)", up | behind, plan, p -> p.told(1));
      }
    }
  }

  /** The row 0 1 + 2 + 3 + .. of so many blocks, each token by its place. */
  static int[] rowOf(int size) {
    int[] tokens = new int[2 * size - 1];
    for (int b = 1; b < size; b++) {
      tokens[2 * b - 1] = b;
      tokens[2 * b] = BESIDE;
    }
    return tokens;
  }

  static long lowTokens(int[] tokens) {
    return Kit.row(tokens);
  }

  static long highTokens(int[] tokens) {
    return tokens.length <= 16 ? -1L : Kit.row(java.util.Arrays.copyOfRange(tokens, 16, tokens.length));
  }

  private void behindRows() {
    for (int size = 1; size <= 12; size++) {
      int[] tokens = rowOf(size);
      int inA = Math.min(16, tokens.length);
      int inB = tokens.length - inA;
      long behindA = inA == 16 ? 0 : -1L << 4 * inA;
      long behindB = -1L << 4 * inB;
      long a = lowTokens(tokens);
      long b = highTokens(tokens);
      GroundPlan plan = Plans.many(size, false);
      for (long junk = 0; junk < 16; junk++) {
        long noise = junk * 0x1111111111111111L;
        long told = a & ~behindA | noise & behindA;
        long more = b & ~behindB | noise & behindB;
        edge.yes("cuts with " + junk + " behind", plan.cuts(told, more, 0));
        edge.due("told(2) of " + size, a, plan, p -> p.told(2));
        edge.due("told(3) of " + size, b, plan, p -> p.told(3));
      }
    }
  }

  private void behindChildren() {
    for (int size = 1; size <= 12; size++) {
      long behind = -1L << 4 * size;
      long chain = (0xFBA987654321L | 15L << 4 * (size - 1)) & ~behind;
      long none = ~behind;
      GroundPlan plan = Plans.many(size, false);
      for (long junk = 0; junk < 16; junk++) {
        long noise = junk * 0x1111111111111111L & behind;
        edge.yes("tree with " + junk + " behind", plan.tree(0, chain | noise, none | noise, 0));
        edge.due("told(4)", chain | behind, plan, p -> p.told(4));
        edge.due("told(5)", -1, plan, p -> p.told(5));
        edge.due("told(6)", 0, plan, p -> p.told(6));
      }
    }
  }

  private void fromDue(long one, long two, GroundPlan plan) {
    edge.yes("from()", plan.from());
    edge.due("told(0)", one, plan, p -> p.told(0));
    edge.due("told(1)", two, plan, p -> p.told(1));
  }

  /** Block 1 at 0, 0 and block 0 about it, so that by number alone 0 would come first. */
  private GroundPlan about(int x, int y) {
    GroundPlan plan = Plans.of(2, 4, 3, 2);
    plan.places();
    plan.put(1, 10, 10, false);
    plan.put(0, x, y, false);
    return plan;
  }

  private void fromOne() {
    edge.hold(0, "a goes ahead of b in ONE, if a is LEFT of b or b BELOW a, and neither is a BELOW b nor b LEFT of a");
    long up = Kit.row(0, 1);
    long down = Kit.row(1, 0);
    fromDue(down, down, about(13, 9));
    fromDue(up, down, about(11, 12));
    fromDue(down, up, about(9, 6));
    fromDue(up, up, about(8, 9));
    fromDue(up, down, about(13, 12));
    fromDue(up, up, about(8, 6));
  }

  /** To the left and above: ahead in ONE, and in TWO neither is; to the right and below likewise. */
  private void fromTwo() {
    edge.hold(0, "in TWO, if a is LEFT of b or BELOW it, and b neither of a");
    long up = Kit.row(0, 1);
    long down = Kit.row(1, 0);
    fromDue(up, up, about(8, 12));
    fromDue(up, up, about(0, 100));
    fromDue(down, up, about(13, 6));
    fromDue(down, up, about(100, 0));
    fromDue(up, down, about(12, 12));
    fromDue(down, up, about(12, 6));
  }

  /** 2 must wait for 3 alone: behind 3 it is the least of those left, ahead of 4. */
  private void fromTies() {
    edge.hold(0, "each order: again and again the BLOCK of least number that none of those left goes ahead of");
    GroundPlan plan = Plans.of(1, 1, 1, 1, 1, 1, 1, 1, 1, 1);
    plan.places();
    for (int b = 0; b < 5; b++) {
      plan.put(b, 10 * b, 10 * b, false);
    }
    plan.put(2, 35, 30, false);
    plan.put(3, 25, 30, false);
    fromDue(Kit.row(0, 1, 3, 2, 4), Kit.row(0, 1, 3, 2, 4), plan);
    GroundPlan diagonal = Plans.of(1, 1, 1, 1, 1, 1);
    diagonal.places();
    diagonal.put(0, 4, 4, false);
    diagonal.put(1, 2, 2, false);
    fromDue(Kit.row(0, 1, 2), Kit.row(2, 1, 0), diagonal);
    GroundPlan rising = Plans.of(1, 1, 1, 1, 1, 1);
    rising.places();
    rising.put(0, 4, 0, false);
    rising.put(1, 2, 2, false);
    rising.put(2, 0, 4, false);
    fromDue(Kit.row(2, 1, 0), Kit.row(0, 1, 2), rising);
    GroundPlan row = Plans.of(1, 1, 1, 1, 1, 1);
    row.places();
    row.put(0, 1, 0, false);
    row.put(1, 2, 0, false);
    fromDue(Kit.row(2, 0, 1), Kit.row(2, 0, 1), row);
    row.places();
    row.put(0, 0, 1, false);
    row.put(1, 0, 2, false);
    fromDue(Kit.row(1, 0, 2), Kit.row(2, 0, 1), row);
  }

  /** 1 waits for 0 alone, 0 for 2 alone, which is not ahead of 1: past its lower or upper end. */
  private void fromWaiting() {
    for (int low = 0; low <= 1; low++) {
      GroundPlan plan = Plans.of(1, 3, 1, 1, 1, 1);
      plan.places();
      plan.put(0, 1, 0, false);
      plan.put(1, 2, 1 - low, false);
      plan.put(2, 0, low, false);
      fromDue(Kit.row(2, 0, 1), Kit.row(2, 0, 1), plan);
    }
  }

  private void fromTurned() {
    edge.hold(0, "TURNED stay.");
    GroundPlan plan = Plans.turning(3, 2, 2, 4, 5, 5);
    plan.places();
    plan.put(1, 50, 50, true);
    plan.put(2, 50, 90, true);
    edge.yes("from()", plan.from());
    edge.turned(plan, 3, 6);
    edge.sized(plan, 1, 4, 2);
  }
}
