import java.util.ArrayList;
import java.util.Collections;
import java.util.List;
import java.util.Random;

/** Random runs of calls on GroundPlan and on Model, whose answers must be the same. */
public final class ModelTest {
  private static final int CALLS = 512;
  private static final Kit kit = new Kit("ModelTest");

  private final Random random;
  private final GroundPlan plan = new GroundPlan();
  private final Model model = new Model();
  private final int mostBlocks;
  private final int mostSide;
  private int calls;

  private ModelTest(long seed, int mostBlocks, int mostSide) {
    random = new Random(seed);
    this.mostBlocks = mostBlocks;
    this.mostSide = mostSide;
  }

  public static void main(String[] args) {
    int[] sizes = {1, 2, 3, 4, 4, 5, 6, 7, 8, 9, 12};
    int[] sides = {2, 3, 5, 9, 30, 200};
    for (int seed = 0; seed < 990 && kit.wrong() == 0; seed++) {
      new ModelTest(seed, sizes[seed % sizes.length], sides[seed / 11 % sides.length]).run();
    }
    for (int kind = 1; kind <= 3; kind++) {
      for (int n = 1; n <= (kind == 2 ? 4 : 5); n++) {
        int k = kind;
        int blocks = n;
        kit.due("count of all told", Model.everyTold(k, n).size(), () -> new GroundPlan().count(k, blocks));
      }
    }
    kit.finish();
  }

  private void run() {
    for (int i = 0; i < mostBlocks; i++) {
      block();
    }
    while (calls < CALLS && kit.wrong() == 0) {
      change();
      int asks = random.nextInt(12);
      for (int i = 0; i < asks; i++) {
        ask();
      }
    }
  }

  private void same(String call, Kit.Call ours, Kit.Call theirs) {
    if (calls++ < CALLS) {
      kit.due(call + " with " + model.size() + " blocks", Kit.answerOf(theirs), Kit.answerOf(ours));
    }
  }

  private static long one(boolean answer) {
    return answer ? 1 : 0;
  }

  private boolean rarely() {
    return random.nextInt(20) == 0;
  }

  private int number(int low, int high) {
    return rarely() ? random.nextInt() >> random.nextInt(32) : low + random.nextInt(high - low + 1);
  }

  private int someBlock() {
    return rarely() ? number(-2, 13) : random.nextInt(Math.max(1, model.size()));
  }

  private void block() {
    int width = rarely() ? number(-1, 201) : number(1, mostSide);
    int height = rarely() ? width : number(1, mostSide);
    boolean mayTurn = random.nextInt(3) > 0;
    same("block", () -> plan.block(width, height, mayTurn), () -> model.block(width, height, mayTurn));
  }

  private void change() {
    switch (random.nextInt(23)) {
      case 0 -> less();
      case 1, 2 -> block();
      case 3, 4 -> net();
      case 5 -> same("places", () -> one(plan.places()), () -> one(model.places()));
      case 6, 7 -> put();
      case 8, 9 -> pair();
      case 10, 11, 12 -> cuts();
      case 13, 14 -> tree();
      case 15 -> same("from", () -> one(plan.from()), () -> one(model.from()));
      case 16 -> same("normal", plan::normal, model::normal);
      case 17 -> best();
      case 18 -> swap();
      case 19 -> least();
      case 20 -> of();
      case 21 -> resize();
      default -> scatter();
    }
  }

  private void less() {
    if (model.size() >= mostBlocks || rarely()) {
      same("less", plan::less, model::less);
      if (!rarely()) {
        block();
      }
    }
  }

  /** So that a lesser plan comes behind a greater one: what is gone may leave no trace. */
  private void resize() {
    int wanted = random.nextInt(mostBlocks + 1);
    while (model.size() > wanted && calls < CALLS) {
      same("less", plan::less, model::less);
    }
    while (model.size() < wanted && calls < CALLS) {
      block();
    }
  }

  private void net() {
    int net = rarely() ? number(-1, 20) : random.nextInt(20);
    int bits = random.nextInt();
    same("net", () -> plan.net(net, bits), () -> model.net(net, bits));
  }

  private void put() {
    int block = someBlock();
    int x = rarely() ? number(9999, 10001) : number(0, 2 * mostSide);
    int y = rarely() ? number(-1, 1) : number(0, 2 * mostSide);
    boolean turned = random.nextBoolean();
    same("put", () -> one(plan.put(block, x, y, turned)), () -> one(model.put(block, x, y, turned)));
  }

  /** Places that do not clash, told in a loose grid. */
  private void scatter() {
    same("places", () -> one(plan.places()), () -> one(model.places()));
    List<Integer> cells = new ArrayList<>();
    for (int i = 0; i < 16; i++) {
      cells.add(i);
    }
    Collections.shuffle(cells, random);
    for (int b = 0; b < model.size(); b++) {
      int block = b;
      int x = cells.get(b) % 4 * mostSide + random.nextInt(2);
      int y = cells.get(b) / 4 * mostSide + random.nextInt(2);
      same("put", () -> one(plan.put(block, x, y, false)), () -> one(model.put(block, x, y, false)));
    }
    same("from", () -> one(plan.from()), () -> one(model.from()));
  }

  private int[] shuffled(int n) {
    List<Integer> order = new ArrayList<>();
    for (int b = 0; b < n; b++) {
      order.add(b);
    }
    Collections.shuffle(order, random);
    return order.stream().mapToInt(Integer::intValue).toArray();
  }

  private long spoiled(long told) {
    if (!rarely()) {
      return told;
    }
    int shift = 4 * random.nextInt(Math.max(1, model.size()));
    return told & ~(15L << shift) | (long) random.nextInt(16) << shift;
  }

  private void pair() {
    long a = spoiled(Kit.row(shuffled(model.size())));
    long b = spoiled(Kit.row(shuffled(model.size())));
    int turned = random.nextInt();
    same("pair", () -> one(plan.pair(a, b, turned)), () -> one(model.pair(a, b, turned)));
  }

  private void cuts() {
    int n = model.size();
    int[] order = shuffled(n);
    int[] tokens = new int[Math.max(1, 2 * n - 1)];
    int used = 0;
    int parts = 0;
    int chance = random.nextInt(4);
    for (int i = 0; i < 2 * n - 1; i++) {
      boolean number = used < n && (parts < 2 || random.nextInt(4) >= chance);
      tokens[i] = number ? order[used++] : 12 + random.nextInt(2);
      parts += number ? 1 : -1;
    }
    long a = spoiled(Kit.row(tokens));
    int[] rest = tokens.length > 16 ? java.util.Arrays.copyOfRange(tokens, 16, tokens.length) : new int[0];
    long b = spoiled(Kit.row(rest));
    int turned = random.nextInt();
    same("cuts", () -> one(plan.cuts(a, b, turned)), () -> one(model.cuts(a, b, turned)));
  }

  private void tree() {
    int n = model.size();
    int[] order = shuffled(n);
    int[] left = new int[n];
    int[] right = new int[n];
    java.util.Arrays.fill(left, 15);
    java.util.Arrays.fill(right, 15);
    for (int i = 1; i < n; i++) {
      boolean set = false;
      while (!set) {
        int parent = order[random.nextInt(i)];
        int[] side = random.nextBoolean() ? left : right;
        set = side[parent] == 15;
        side[parent] = set ? order[i] : side[parent];
      }
    }
    int root = n == 0 || rarely() ? number(-1, 12) : order[0];
    long a = spoiled(Kit.row(left));
    long b = spoiled(Kit.row(right));
    int turned = random.nextInt();
    same("tree", () -> one(plan.tree(root, a, b, turned)), () -> one(model.tree(root, a, b, turned)));
  }

  private void best() {
    int i = number(-1, 5);
    same("best", () -> plan.best(i), () -> model.best(i));
  }

  private void swap() {
    int order = rarely() ? number(-1, 2) : random.nextInt(2);
    int i = someBlock();
    int j = someBlock();
    same("swap", () -> one(plan.swap(order, i, j)), () -> one(model.swap(order, i, j)));
  }

  private void least() {
    int kind = rarely() ? number(0, 4) : 1 + random.nextInt(3);
    same("least(" + kind + ")", () -> plan.least(kind), () -> model.least(kind));
    for (int i = 0; i < 7; i++) {
      int what = i;
      same("told(" + what + ") of the least", () -> plan.told(what), () -> model.told(what));
    }
    for (int b = 0; b < 4; b++) {
      int block = b;
      same("turned of the least", () -> plan.at(block, 4), () -> model.at(block, 4));
    }
  }

  private void of() {
    long all = 1;
    for (int i = 2; i <= model.size(); i++) {
      all *= (long) i * i;
    }
    long rank = rarely() ? all - random.nextInt(2) : Math.floorMod(random.nextLong(), all + 2) - 1;
    same("of(" + rank + ")", () -> one(plan.of(rank)), () -> one(model.of(rank)));
  }

  private void ask() {
    int block = someBlock();
    int what = number(-1, 8);
    switch (random.nextInt(12)) {
      case 0 -> same("side", () -> plan.side(block, what), () -> model.side(block, what));
      case 1, 2 -> same("about(" + what + ")", () -> plan.about(what), () -> model.about(what));
      case 3, 4, 5 -> same("at", () -> plan.at(block, what), () -> model.at(block, what));
      case 6 -> same("told(" + what + ")", () -> plan.told(what), () -> model.told(what));
      case 7 -> same("slack", () -> plan.slack(block, what & 1), () -> model.slack(block, what & 1));
      case 8 -> same("wires", plan::wires, model::wires);
      case 9 -> same("isCut", () -> one(plan.isCut()), () -> one(model.isCut()));
      case 10 -> askCurve();
      default -> same("rank", plan::rank, model::rank);
    }
  }

  private void askCurve() {
    int i = number(-1, 5);
    int what = number(0, 1);
    same("curve", plan::curve, model::curve);
    same("shape", () -> plan.shape(i, what), () -> model.shape(i, what));
  }
}
