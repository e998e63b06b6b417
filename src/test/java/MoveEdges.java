import java.util.List;
import java.util.function.Supplier;

/** Boundary cases of promises 16 to 22: from, isCut, normal, curve, shape, best, swap. */
final class MoveEdges {
  private static final int BESIDE = Plans.BESIDE;
  private static final int ABOVE = Plans.ABOVE;
  private static final List<Supplier<GroundPlan>> NO_CUTS =
      List.of(Plans::empty, Plans::four, Plans::fourPlaced, Plans::fourPaired, Plans::fourTree);
  private static final List<Supplier<GroundPlan>> NO_PAIR =
      List.of(Plans::empty, Plans::four, Plans::fourPlaced, Plans::fourCut, Plans::fourTree);

  private final Edge edge;

  MoveEdges(Edge edge) {
    this.edge = edge;
  }

  void run() {
    fromAnyKind();
    fromRefused();
    fromTouching();
    cutOfFew();
    cutByWheels();
    cutAmongMany();
    cutByClash();
    cutRefused();
    normalOfNormal();
    normalOfTwelve();
    normalPlaces();
    normalRefused();
    curveOfOne();
    curveOfEqual();
    curveOfTwelve();
    curveRefused();
    shapeRefused();
    bestLeast();
    bestRefused();
    swapPlaces();
    swapSame();
    swapRefused();
  }

  private void fromAnyKind() {
    edge.hold(16, "The LAYING becomes the PAIR FROM it: true.");
    for (Supplier<GroundPlan> make : List.<Supplier<GroundPlan>>of(
        Plans::fourPlaced, Plans::fourPaired, Plans::fourCut, Plans::fourTree)) {
      GroundPlan plan = make.get();
      int turned = make.get().at(0, 4) | make.get().at(2, 4) << 2;
      edge.yes("from()", plan.from());
      edge.due("about(0)", 1, plan, p -> p.about(0));
      edge.due("about(5)", 1, plan, p -> p.about(5));
      edge.turned(plan, 4, turned);
    }
    GroundPlan one = Plans.of(3, 2);
    one.places();
    one.put(0, 50, 60, false);
    edge.yes("from() of one", one.from());
    edge.lies(one, 0, 0, 0);
    edge.due("told(0)", -16, one, p -> p.told(0));
    GroundPlan again = Plans.fourPaired();
    again.pair(Kit.row(3, 2, 1, 0), Kit.row(0, 1, 2, 3), 0);
    again.from();
    again.pair(Kit.row(0, 1, 2, 3), Kit.row(3, 2, 1, 0), 0);
    edge.yes("from() again", again.from());
    edge.due("told(0)", Kit.row(0, 1, 2, 3), again, p -> p.told(0));
    edge.due("told(1)", Kit.row(3, 2, 1, 0), again, p -> p.told(1));
  }

  private void fromRefused() {
    edge.hold(16, "False (nothing changes): there is none, or two CLASH.");
    edge.refuses("from() without a laying", Edge.NO, Plans::four, p -> Edge.one(p.from()));
    edge.refuses("from() without blocks", Edge.NO, Plans::empty, p -> Edge.one(p.from()));
    edge.refuses("from() of a heap", Edge.NO, Plans::fourHeaped, p -> Edge.one(p.from()));
    Supplier<GroundPlan> lastTwo = () -> {
      GroundPlan plan = Plans.fourPlaced();
      plan.put(3, 9, 5, false);
      return plan;
    };
    edge.refuses("from() when the last two clash", Edge.NO, lastTwo, p -> Edge.one(p.from()));
  }

  private void fromTouching() {
    edge.no("from(), one step into one another", Plans.two(2, 4, 2, 1).from());
    edge.yes("from(), side by side", Plans.two(2, 4, 3, 1).from());
    edge.yes("from(), one on another", Plans.two(2, 4, 2, 2).from());
    edge.yes("from(), corner by corner", Plans.two(2, 4, 3, 2).from());
  }

  private void cutOfFew() {
    edge.hold(17, "any group of more than one, beginning with all, has a line, upright or level");
    GroundPlan one = Plans.of(3, 2);
    one.places();
    edge.yes("isCut() of one", one.isCut());
    edge.yes("isCut(), side by side", Plans.two(2, 4, 3, 1).isCut());
    edge.yes("isCut(), one on another", Plans.two(2, 4, 2, 2).isCut());
    edge.yes("isCut(), corner by corner", Plans.two(2, 4, 3, 2).isCut());
    edge.yes("isCut(), far apart", Plans.two(2, 4, 10000, 10000).isCut());
    GroundPlan twelve = Plans.many(12, false);
    twelve.pair(Plans.UP, Plans.UP, 0);
    edge.yes("isCut() of twelve in a row", twelve.isCut());
    twelve.pair(Plans.DOWN, Plans.UP, 0);
    edge.yes("isCut() of twelve in a tower", twelve.isCut());
    edge.due("about(0), the laying stays", 1, twelve, p -> p.about(0));
  }

  /** Four about a middle, as the sails of a wheel, and what else is told. */
  private static GroundPlan wheel(int... more) {
    int[] sails = {2, 1, 1, 2, 2, 1, 1, 2};
    int[] sides = java.util.Arrays.copyOf(sails, sails.length + more.length);
    System.arraycopy(more, 0, sides, sails.length, more.length);
    GroundPlan plan = Plans.of(sides);
    plan.places();
    plan.put(1, 2, 0, false);
    plan.put(2, 1, 2, false);
    plan.put(3, 0, 1, false);
    for (int b = 4; b < 4 + more.length / 2; b++) {
      plan.put(b, 100 * b, 100 * b, false);
    }
    return plan;
  }

  private void cutByWheels() {
    edge.hold(17, "that goes through none of its BLOCKS and leaves some on both sides");
    edge.no("isCut() of a wheel", wheel().isCut());
    GroundPlan full = wheel(1, 1);
    edge.no("isCut() of a wheel with one far away", full.isCut());
    full.put(4, 1, 1, false);
    edge.no("isCut() of a wheel with a middle", full.isCut());
    full.put(1, 3, 0, false);
    edge.yes("isCut() of a wheel of which a sail is a step away", full.isCut());
    full.put(1, 2, 0, false);
    full.put(2, 1, 3, false);
    edge.yes("isCut() of a wheel of which the upper sail is a step away", full.isCut());
    GroundPlan low = wheel();
    low.put(0, 0, 0, false);
    low.put(1, 3, 0, false);
    low.put(2, 1, 3, false);
    edge.yes("isCut() of a loose wheel", low.isCut());
    GroundPlan beside = wheel(1, 9, 9, 1);
    beside.put(4, 3, 0, false);
    beside.put(5, 0, 9, false);
    edge.no("isCut() of a wheel beside one, below another", beside.isCut());
    beside.put(3, 20, 0, false);
    edge.yes("isCut() when a sail is gone", beside.isCut());
    GroundPlan pair = wheel();
    pair.from();
    edge.no("isCut() of a wheel as a pair", pair.isCut());
    edge.due("about(3)", 9, pair, p -> p.about(3));
  }

  /** Eight single blocks and a wheel among them, as the first blocks or as the last ones. */
  private static GroundPlan wheelAmong(boolean first, int x, int y) {
    int[] sails = {2, 1, 1, 2, 2, 1, 1, 2};
    int[][] spots = {{0, 0}, {2, 0}, {1, 2}, {0, 1}};
    int[] sides = new int[24];
    java.util.Arrays.fill(sides, 1);
    System.arraycopy(sails, 0, sides, first ? 0 : 16, 8);
    GroundPlan plan = Plans.of(sides);
    plan.places();
    for (int i = 0; i < 8; i++) {
      int place = 20 + 2 * i + (i < 4 ? 0 : 20);
      plan.put(first ? 4 + i : i, place, place, false);
    }
    for (int i = 0; i < 4; i++) {
      plan.put(first ? i : 8 + i, x + spots[i][0], y + spots[i][1], false);
    }
    return plan;
  }

  private void cutAmongMany() {
    int[][] corners = {{0, 0}, {90, 90}, {0, 90}, {90, 0}, {33, 33}, {0, 33}, {33, 0}};
    for (int[] corner : corners) {
      for (int way = 0; way < 2; way++) {
        boolean first = way == 0;
        GroundPlan plan = wheelAmong(first, corner[0], corner[1]);
        edge.due("about(5)", 1, plan, p -> p.about(5));
        edge.no("isCut() of a wheel among eight at " + corner[0] + ", " + corner[1], plan.isCut());
        plan.put(first ? 1 : 9, corner[0] + 3, corner[1], false);
        edge.yes("isCut() of a loose wheel among eight", plan.isCut());
      }
    }
  }

  private void cutByClash() {
    edge.hold(17, "no two CLASH");
    GroundPlan plan = Plans.of(3, 2, 2, 4, 1, 1);
    plan.places();
    edge.no("isCut() of a heap", plan.isCut());
    plan.put(1, 3, 0, false);
    edge.no("isCut(), the first and the last clash", plan.isCut());
    plan.put(2, 0, 2, false);
    edge.yes("isCut(), none clash", plan.isCut());
    plan.put(2, 4, 3, false);
    edge.no("isCut(), the last two clash", plan.isCut());
    plan.put(2, 4, 4, false);
    edge.yes("isCut(), the last two touch", plan.isCut());
  }

  private void cutRefused() {
    edge.hold(17, "NoSuchElementException: there is none.");
    edge.refuses("isCut() without a laying", Edge.THROWS, Plans::four, p -> Edge.one(p.isCut()));
    edge.refuses("isCut() without blocks", Edge.THROWS, Plans::empty, p -> Edge.one(p.isCut()));
    GroundPlan plan = Plans.fourCut();
    edge.yes("isCut() of cuts", plan.isCut());
    plan.less();
    edge.due("isCut() of an ended laying", Edge.THROWS, plan, p -> Edge.one(p.isCut()));
  }

  private void normalOfNormal() {
    edge.hold(18, "how many TOKENS changed");
    GroundPlan one = Plans.of(3, 2);
    one.cuts(0, 0, 0);
    edge.due("normal() of one", 0, one, p -> p.normal());
    GroundPlan two = Plans.of(3, 2, 2, 4);
    two.cuts(Kit.row(1, 0, ABOVE), 0, 0);
    edge.due("normal() of two", 0, two, p -> p.normal());
    edge.due("told(2)", Kit.row(1, 0, ABOVE), two, p -> p.told(2));
    GroundPlan three = Plans.of(3, 2, 2, 4, 1, 1);
    three.cuts(Kit.row(2, 0, 1, ABOVE, ABOVE), 0, 0);
    edge.due("normal() of three", 2, three, p -> p.normal());
    edge.due("told(2)", Kit.row(2, 0, ABOVE, 1, ABOVE), three, p -> p.told(2));
    edge.due("normal() again", 0, three, p -> p.normal());
    three.cuts(Kit.row(2, 0, 1, BESIDE, ABOVE), 0, 0);
    edge.due("normal() of a BESIDE under an ABOVE", 0, three, p -> p.normal());
    edge.due("told(2)", Kit.row(2, 0, 1, BESIDE, ABOVE), three, p -> p.told(2));
    for (int some = BESIDE; some <= ABOVE; some++) {
      int joint = some;
      int other = BESIDE + ABOVE - joint;
      GroundPlan four = Plans.four();
      four.cuts(Kit.row(3, 0, 1, 2, other, joint, joint), 0, 0);
      edge.due("normal() round a second part", 4, four, p -> p.normal());
      edge.due("told(2)", Kit.row(3, 0, joint, 1, 2, other, joint), four, p -> p.told(2));
      four.cuts(Kit.row(0, 1, 2, other, 3, joint, joint), 0, 0);
      edge.due("normal() round a first part", 2, four, p -> p.normal());
      edge.due("told(2)", Kit.row(0, 1, 2, other, joint, 3, joint), four, p -> p.told(2));
    }
  }

  /** 0 1 .. 11 + + .. becomes 0 1 + 2 + ..: from the third token on each, then each other one. */
  private void normalOfTwelve() {
    for (int joint = BESIDE; joint <= ABOVE; joint++) {
      int[] tokens = new int[23];
      int[] want = TermsEdges.rowOf(12);
      for (int i = 0; i < 23; i++) {
        tokens[i] = i < 12 ? i : joint;
        want[i] = want[i] == BESIDE ? joint : want[i];
      }
      GroundPlan plan = Plans.many(12, false);
      edge.yes("cuts()", plan.cuts(TermsEdges.lowTokens(tokens), TermsEdges.highTokens(tokens), 0));
      edge.due("normal() of twelve", 15, plan, p -> p.normal());
      edge.due("told(2)", TermsEdges.lowTokens(want), plan, p -> p.told(2));
      edge.due("told(3)", TermsEdges.highTokens(want), plan, p -> p.told(3));
      edge.lies(plan, 11, joint == BESIDE ? 66 : 0, joint == BESIDE ? 0 : 22);
      edge.due("normal() again", 0, plan, p -> p.normal());
    }
  }

  private void normalPlaces() {
    edge.hold(18, "CUTS become NORMAL (their places as before)");
    GroundPlan plan = Plans.fourCut();
    GroundPlan twin = Plans.fourCut();
    edge.due("normal()", 2, plan, p -> p.normal());
    edge.due("told(2)", Kit.row(0, 1, BESIDE, 2, BESIDE, 3, ABOVE), plan, p -> p.told(2));
    for (int b = 0; b < 4; b++) {
      for (int w = 0; w < 5; w++) {
        int block = b;
        int what = w;
        edge.due("at(" + b + ", " + w + ")", twin.at(b, w), plan, p -> p.at(block, what));
      }
    }
    edge.due("about(0)", 2, plan, p -> p.about(0));
    edge.due("wires()", twin.wires(), plan, p -> p.wires());
    edge.due("curve()", twin.curve(), plan, p -> p.curve());
  }

  private void normalRefused() {
    edge.hold(18, "NoSuchElementException: the LAYING is none of CUTS.");
    for (Supplier<GroundPlan> make : NO_CUTS) {
      edge.refuses("normal()", Edge.THROWS, make, p -> p.normal());
    }
    GroundPlan plan = Plans.fourCut();
    plan.places();
    edge.due("normal() when cuts have become places", Edge.THROWS, plan, p -> p.normal());
  }

  private void curveDue(GroundPlan plan, int... shapes) {
    int many = shapes.length / 2;
    edge.due("curve()", many, plan, p -> p.curve());
    for (int s = 0; s < many; s++) {
      int i = s;
      edge.due("shape(" + i + ", 0)", shapes[2 * i], plan, p -> p.shape(i, 0));
      edge.due("shape(" + i + ", 1)", shapes[2 * i + 1], plan, p -> p.shape(i, 1));
    }
    edge.due("shape(" + many + ", 0)", Edge.THROWS, plan, p -> p.shape(many, 0));
  }

  private void curveOfOne() {
    edge.hold(19, "all pairs of WIDE and HIGH that TURNING some BLOCKS gives");
    GroundPlan square = Plans.turning(5, 5);
    square.cuts(0, 0, 1);
    curveDue(square, 5, 5);
    GroundPlan bar = Plans.turning(6, 5);
    bar.cuts(0, 0, 0);
    curveDue(bar, 5, 6, 6, 5);
    GroundPlan stiff = Plans.of(6, 5);
    stiff.cuts(0, 0, 1);
    curveDue(stiff, 6, 5);
    GroundPlan both = Plans.turning(6, 5);
    both.block(1, 9, false);
    both.cuts(Kit.row(0, 1, ABOVE), 0, 0);
    curveDue(both, 5, 15, 6, 14);
    both.cuts(Kit.row(0, 1, BESIDE), 0, 0);
    curveDue(both, 6, 9);
  }

  /** Two of 2 by 3: of 4 by 3, 5 by 3 and 6 by 2 the second is as high as the first, and wider. */
  private void curveOfEqual() {
    edge.hold(19, "but those for which another one is no wider and no higher");
    GroundPlan plan = Plans.turning(2, 3, 2, 3);
    plan.cuts(Kit.row(0, 1, BESIDE), 0, 0);
    curveDue(plan, 4, 3, 6, 2);
    plan.cuts(Kit.row(0, 1, ABOVE), 0, 0);
    curveDue(plan, 2, 6, 3, 4);
    GroundPlan same = Plans.turning(2, 3, 2, 3);
    same.block(5, 1, false);
    same.cuts(Kit.row(0, 1, BESIDE, 2, ABOVE), 0, 0);
    curveDue(same, 5, 4, 6, 3);
  }

  /** Bars 1 by 2 to 1 by 13 side by side: the higher ones lie down, one after another. */
  private static GroundPlan bars(int turned) {
    return bars(BESIDE, true, turned);
  }

  /** All in one row of the joint, joined as they come or from the last one on. */
  private static GroundPlan bars(int joint, boolean asTheyCome, int turned) {
    GroundPlan plan = new GroundPlan();
    for (int b = 0; b < 12; b++) {
      plan.block(1, b + 2, true);
    }
    int[] tokens = TermsEdges.rowOf(12);
    for (int i = 0; i < 23; i++) {
      int last = i < 12 ? i : BESIDE;
      int token = asTheyCome ? tokens[i] : last;
      tokens[i] = token == BESIDE ? joint : token;
    }
    plan.cuts(TermsEdges.lowTokens(tokens), TermsEdges.highTokens(tokens), turned);
    return plan;
  }

  private void curveOfTwelve() {
    edge.hold(19, "how many (by rising WIDE)");
    int[] shapes = new int[26];
    for (int i = 0; i < 13; i++) {
      shapes[2 * i] = i == 0 ? 12 : shapes[2 * i - 2] + 13 - i;
      shapes[2 * i + 1] = 13 - i;
    }
    curveDue(bars(0), shapes);
    curveDue(bars(0xAAA), shapes);
    curveDue(bars(BESIDE, false, 0), shapes);
    int[] upright = new int[26];
    for (int i = 0; i < 26; i++) {
      upright[i] = shapes[25 - i];
    }
    curveDue(bars(ABOVE, true, 0), upright);
    curveDue(bars(ABOVE, false, 0xFFF), upright);
    for (int i = 0; i < 13; i++) {
      int asked = i;
      GroundPlan plan = bars(0x5A5);
      edge.due("best(" + i + ")", 0xFFF & ~(0xFFF >> i), plan, p -> p.best(asked));
      edge.due("about(1)", shapes[2 * i], plan, p -> p.about(1));
      edge.due("about(2)", shapes[2 * i + 1], plan, p -> p.about(2));
    }
    edge.due("best(13)", Edge.THROWS, bars(0), p -> p.best(13));
  }

  private void curveRefused() {
    edge.hold(19, "NoSuchElementException likewise.");
    for (Supplier<GroundPlan> make : NO_CUTS) {
      edge.refuses("curve()", Edge.THROWS, make, p -> p.curve());
    }
  }

  private void shapeRefused() {
    edge.hold(20, "NoSuchElementException: there is none, another what.");
    for (Supplier<GroundPlan> make : NO_CUTS) {
      edge.refuses("shape(0, 0)", Edge.THROWS, make, p -> p.shape(0, 0));
    }
    int many = Plans.fourCut().curve();
    edge.refuses("shape(-1, 0)", Edge.THROWS, Plans::fourCut, p -> p.shape(-1, 0));
    edge.refuses("shape behind the last", Edge.THROWS, Plans::fourCut, p -> p.shape(many, 0));
    edge.refuses("shape(0, -1)", Edge.THROWS, Plans::fourCut, p -> p.shape(0, -1));
    edge.refuses("shape(0, 2)", Edge.THROWS, Plans::fourCut, p -> p.shape(0, 2));
    for (int bad : new int[] {Edge.LEAST_INT, Edge.MOST_INT, 26, 32}) {
      edge.due("shape(" + bad + ", 1)", Edge.THROWS, Plans.fourCut(), p -> p.shape(bad, 1));
      edge.due("shape(0, " + bad + ")", Edge.THROWS, Plans.fourCut(), p -> p.shape(0, bad));
    }
    GroundPlan fewer = Plans.turning(6, 5, 1, 1);
    fewer.cuts(Kit.row(0, 1, ABOVE), 0, 0);
    edge.due("shape(1, 0)", 6, fewer, p -> p.shape(1, 0));
    fewer.less();
    edge.due("shape(0, 0) of an ended laying", Edge.THROWS, fewer, p -> p.shape(0, 0));
    fewer.block(6, 6, true);
    fewer.cuts(Kit.row(0, 1, ABOVE), 0, 0);
    edge.due("shape(0, 0) of other blocks", 6, fewer, p -> p.shape(0, 0));
    edge.due("shape(1, 0) of other blocks", Edge.THROWS, fewer, p -> p.shape(1, 0));
  }

  /** 0 and 1 turned make the tower as low as 2 turned does: 3 is less than 4. */
  private void bestLeast() {
    edge.hold(21, "the least number of TURNED bits that give it: that number");
    GroundPlan plan = Plans.turning(2, 3, 2, 3, 1, 3);
    plan.block(4, 7, false);
    plan.cuts(Kit.row(0, 1, ABOVE, 2, ABOVE, 3, BESIDE), 0, 7);
    curveDue(plan, 6, 9, 7, 7);
    edge.due("best(1)", 3, plan, p -> p.best(1));
    edge.turned(plan, 4, 3);
    edge.due("best(0)", 0, plan, p -> p.best(0));
    edge.turned(plan, 4, 0);
    edge.lies(plan, 3, 2, 0);
    GroundPlan either = Plans.turning(2, 3, 2, 3);
    either.block(4, 5, false);
    either.cuts(Kit.row(0, 1, ABOVE, 2, BESIDE), 0, 2);
    edge.due("best(1), either one would do", 1, either, p -> p.best(1));
    GroundPlan squares = Plans.turning(5, 5, 4, 4);
    squares.cuts(Kit.row(0, 1, BESIDE), 0, 3);
    edge.due("best(0) of squares", 0, squares, p -> p.best(0));
    edge.turned(squares, 2, 0);
  }

  private void bestRefused() {
    edge.hold(21, "NoSuchElementException: there is none.");
    for (Supplier<GroundPlan> make : NO_CUTS) {
      edge.refuses("best(0)", Edge.THROWS, make, p -> p.best(0));
    }
    int many = Plans.fourCut().curve();
    edge.due("best of the last", 1, Plans.fourCut(), p -> p.best(many - 1) >= 0 ? 1 : 0);
    for (int bad : new int[] {-1, many, many + 1, 26, Edge.LEAST_INT, Edge.MOST_INT}) {
      edge.refuses("best(" + bad + ")", Edge.THROWS, Plans::fourCut, p -> p.best(bad));
    }
  }

  private void swapPlaces() {
    edge.hold(22, "Two BLOCKS at i and j of an order (0 ONE, 1 TWO) of a PAIR change places: true.");
    GroundPlan plan = Plans.fourPaired();
    edge.yes("swap(0, 0, 3)", plan.swap(0, 0, 3));
    edge.due("told(0)", Kit.row(3, 0, 2, 1), plan, p -> p.told(0));
    edge.due("told(1)", Kit.row(0, 1, 3, 2), plan, p -> p.told(1));
    edge.yes("swap(1, 3, 0)", plan.swap(1, 3, 0));
    edge.due("told(0)", Kit.row(3, 0, 2, 1), plan, p -> p.told(0));
    edge.due("told(1)", Kit.row(2, 1, 3, 0), plan, p -> p.told(1));
    edge.turned(plan, 4, 4);
    edge.lies(plan, 2, 0, 0);
    edge.lies(plan, 1, 3, 0);
    GroundPlan twelve = Plans.many(12, false);
    twelve.of(0);
    edge.yes("swap(0, 11, 0)", twelve.swap(0, 11, 0));
    edge.due("told(0)", 0xFFFF0A987654321BL, twelve, p -> p.told(0));
    edge.no("swap(0, 12, 0)", twelve.swap(0, 12, 0));
  }

  private void swapSame() {
    for (int order = 0; order < 2; order++) {
      for (int i = 0; i < 4; i++) {
        GroundPlan plan = Plans.fourPaired();
        edge.yes("swap(" + order + ", " + i + ", " + i + ")", plan.swap(order, i, i));
        edge.same("swap of a place with itself, then ", plan, Plans.fourPaired());
      }
    }
    edge.no("swap(0, 4, 4)", Plans.fourPaired().swap(0, 4, 4));
    edge.no("swap(0, -1, -1)", Plans.fourPaired().swap(0, -1, -1));
  }

  private void swapRefused() {
    edge.hold(22, "False: no PAIR, no such order, places.");
    for (Supplier<GroundPlan> make : NO_PAIR) {
      edge.refuses("swap(0, 0, 1) of no pair", Edge.NO, make, p -> Edge.one(p.swap(0, 0, 1)));
      edge.refuses("swap(1, 2, 3) of no pair", Edge.NO, make, p -> Edge.one(p.swap(1, 2, 3)));
    }
    for (int bad : new int[] {-1, 2, 3, Edge.LEAST_INT, Edge.MOST_INT}) {
      edge.refuses("swap(" + bad + ", 0, 1)", Edge.NO, Plans::fourPaired, p -> Edge.one(p.swap(bad, 0, 1)));
    }
    for (int bad : new int[] {-1, 4, 11, 12, 16, 32, Edge.LEAST_INT, Edge.MOST_INT}) {
      for (int o = 0; o < 2; o++) {
        int order = o;
        edge.refuses("swap(" + o + ", " + bad + ", 1)", Edge.NO, Plans::fourPaired,
            p -> Edge.one(p.swap(order, bad, 1)));
        edge.refuses("swap(" + o + ", 1, " + bad + ")", Edge.NO, Plans::fourPaired,
            p -> Edge.one(p.swap(order, 1, bad)));
      }
    }
  }
}
