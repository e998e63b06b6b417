/** Plans that the tests begin with. */
final class Plans {
  static final int BESIDE = 12;
  static final int ABOVE = 13;
  /** The numbers 0 to 11 as an order. */
  static final long UP = 0xFFFFBA9876543210L;
  /** The numbers 11 to 0 as an order. */
  static final long DOWN = 0xFFFF0123456789ABL;

  private Plans() {}

  static GroundPlan empty() {
    return new GroundPlan();
  }

  /** 0: 4 by 2 (may turn), 1: 3 by 5, 2: 2 by 3 (may turn), 3: 6 by 1; nets 0 and 19. */
  static GroundPlan four() {
    GroundPlan plan = new GroundPlan();
    plan.block(4, 2, true);
    plan.block(3, 5, false);
    plan.block(2, 3, true);
    plan.block(6, 1, false);
    plan.net(0, 0b1010);
    plan.net(19, 0b1111);
    return plan;
  }

  static GroundPlan fourPlaced() {
    GroundPlan plan = four();
    plan.places();
    plan.put(0, 1, 9, true);
    plan.put(1, 4, 0, false);
    plan.put(2, 8, 3, false);
    plan.put(3, 4, 20, false);
    return plan;
  }

  /** All at 0, 0. */
  static GroundPlan fourHeaped() {
    GroundPlan plan = four();
    plan.places();
    return plan;
  }

  static GroundPlan fourPaired() {
    GroundPlan plan = four();
    plan.pair(Kit.row(1, 0, 2, 3), Kit.row(0, 1, 3, 2), 4);
    return plan;
  }

  static GroundPlan fourCut() {
    GroundPlan plan = four();
    plan.cuts(Kit.row(0, 1, 2, BESIDE, BESIDE, 3, ABOVE), 0, 4);
    return plan;
  }

  static GroundPlan fourTree() {
    GroundPlan plan = four();
    plan.tree(0, Kit.row(1, 15, 3), Kit.row(2), 4);
    return plan;
  }

  /** Widths 1, 2, .., all 2 high. */
  static GroundPlan many(int n, boolean mayTurn) {
    GroundPlan plan = new GroundPlan();
    for (int i = 0; i < n; i++) {
      plan.block(i + 1, 2, mayTurn);
    }
    return plan;
  }

  /** Blocks of given sides, width and height by turns, none of which may turn. */
  static GroundPlan of(int... sides) {
    return made(false, sides);
  }

  /** The same, all of which may turn. */
  static GroundPlan turning(int... sides) {
    return made(true, sides);
  }

  private static GroundPlan made(boolean mayTurn, int... sides) {
    GroundPlan plan = new GroundPlan();
    for (int i = 0; i + 1 < sides.length; i += 2) {
      plan.block(sides[i], sides[i + 1], mayTurn);
    }
    return plan;
  }

  /** Two blocks, the first at 0, 0. */
  static GroundPlan two(int width, int height, int x, int y) {
    GroundPlan plan = of(3, 2, width, height);
    plan.places();
    plan.put(1, x, y, false);
    return plan;
  }
}
