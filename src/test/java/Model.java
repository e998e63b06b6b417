import java.util.ArrayDeque;
import java.util.ArrayList;
import java.util.Collections;
import java.util.Deque;
import java.util.HashSet;
import java.util.List;
import java.util.NoSuchElementException;
import java.util.Set;
import java.util.TreeMap;

/**
 * A second build of the document, as slow and as near to its words as can be, to hold GroundPlan
 * against. It shares no code and, where there is a choice, no way of working with it.
 */
final class Model {
  private record Size(int width, int height, boolean mayTurn) {}

  private record Spot(int x, int y, int width, int height) {
    boolean left(Spot other) {
      return x + width <= other.x;
    }

    boolean below(Spot other) {
      return y + height <= other.y;
    }

    boolean clash(Spot other) {
      return !(left(other) || other.left(this) || below(other) || other.below(this));
    }
  }

  private record Part(int token, Part first, Part second) {}

  private record Told(int kind, List<Integer> one, List<Integer> two, List<Integer> tokens, int root,
      List<Integer> left, List<Integer> right) {}

  private static final int NOBODY = 15;

  private final List<Size> sizes = new ArrayList<>();
  private final List<Set<Integer>> nets = new ArrayList<>();
  private Told told;
  private Set<Integer> turned = new HashSet<>();
  private List<Spot> spots;
  private int grounds;

  Model() {
    for (int i = 0; i < 20; i++) {
      nets.add(new HashSet<>());
    }
  }

  int size() {
    return sizes.size();
  }

  int block(int width, int height, boolean mayTurn) {
    if (sizes.size() == 12 || width < 1 || width > 200 || height < 1 || height > 200) {
      return -1;
    }
    told = null;
    sizes.add(new Size(width, height, mayTurn));
    return sizes.size() - 1;
  }

  int less() {
    if (sizes.isEmpty()) {
      return -1;
    }
    told = null;
    int last = sizes.size() - 1;
    sizes.remove(last);
    for (Set<Integer> net : nets) {
      net.remove(last);
    }
    return last;
  }

  int side(int block, int what) {
    Size size = sizeOf(block);
    return switch (what) {
      case 0 -> size.width;
      case 1 -> size.height;
      case 2 -> size.mayTurn ? 1 : 0;
      default -> throw new NoSuchElementException();
    };
  }

  int net(int net, int bits) {
    if (net < 0 || net > 19) {
      throw new NoSuchElementException();
    }
    Set<Integer> joined = bitsOf(bits);
    nets.set(net, joined);
    return joined.size();
  }

  boolean places() {
    if (sizes.isEmpty()) {
      return false;
    }
    if (told == null) {
      turned = new HashSet<>();
      spots = new ArrayList<>();
      for (Size size : sizes) {
        spots.add(new Spot(0, 0, size.width, size.height));
      }
    }
    told = new Told(0, null, null, null, 0, null, null);
    return true;
  }

  boolean put(int block, int x, int y, boolean over) {
    Size size = sizeOf(block);
    if (told == null || told.kind != 0 || x < 0 || x > 10000 || y < 0 || y > 10000) {
      return false;
    }
    if (over && !size.mayTurn) {
      return false;
    }
    if (over) {
      turned.add(block);
      spots.set(block, new Spot(x, y, size.height, size.width));
    } else {
      turned.remove(block);
      spots.set(block, new Spot(x, y, size.width, size.height));
    }
    return true;
  }

  boolean pair(long one, long two, int bits) {
    List<Integer> first = take(one, 0, sizes.size());
    List<Integer> second = take(two, 0, sizes.size());
    if (sizes.isEmpty() || !isOrder(first) || !isOrder(second)) {
      return false;
    }
    setTo(new Told(1, first, second, null, 0, null, null), bits);
    return true;
  }

  boolean cuts(long a, long b, int bits) {
    if (sizes.isEmpty()) {
      return false;
    }
    int length = 2 * sizes.size() - 1;
    List<Integer> tokens = take(a, 0, Math.min(16, length));
    tokens.addAll(take(b, 0, Math.max(0, length - 16)));
    if (parse(tokens) == null) {
      return false;
    }
    setTo(new Told(2, null, null, tokens, 0, null, null), bits);
    return true;
  }

  boolean tree(int root, long left, long right, int bits) {
    if (root < 0 || root >= sizes.size()) {
      return false;
    }
    List<Integer> lefts = take(left, 0, sizes.size());
    List<Integer> rights = take(right, 0, sizes.size());
    List<Integer> met = new ArrayList<>();
    if (!meet(root, lefts, rights, met) || met.size() != sizes.size()) {
      return false;
    }
    setTo(new Told(3, null, null, null, root, lefts, rights), bits);
    return true;
  }

  int about(int what) {
    need();
    int own = 0;
    for (Size size : sizes) {
      own += size.width * size.height;
    }
    int[] clash = firstClash();
    return switch (what) {
      case 0 -> told.kind;
      case 1 -> wide(spots);
      case 2 -> high(spots);
      case 3 -> wide(spots) * high(spots);
      case 4 -> wide(spots) * high(spots) - own;
      case 5 -> clash == null ? 1 : 0;
      case 6 -> clash == null ? -1 : clash[0];
      case 7 -> clash == null ? -1 : clash[1];
      default -> throw new NoSuchElementException();
    };
  }

  int at(int block, int what) {
    need();
    sizeOf(block);
    Spot spot = spots.get(block);
    return switch (what) {
      case 0 -> spot.x;
      case 1 -> spot.y;
      case 2 -> spot.width;
      case 3 -> spot.height;
      case 4 -> turned.contains(block) ? 1 : 0;
      default -> throw new NoSuchElementException();
    };
  }

  long told(int what) {
    need();
    int[] kinds = {1, 1, 2, 2, 3, 3, 3};
    if (what < 0 || what > 6 || kinds[what] != told.kind) {
      throw new NoSuchElementException();
    }
    return switch (what) {
      case 0 -> give(told.one, 0);
      case 1 -> give(told.two, 0);
      case 2 -> give(told.tokens, 0);
      case 3 -> give(told.tokens, 16);
      case 4 -> give(told.left, 0);
      case 5 -> give(told.right, 0);
      default -> told.root;
    };
  }

  /** Slides the block a step more, and pushes what it must push, until the ground grows. */
  int slack(int block, int what) {
    needKind(1);
    sizeOf(block);
    if (what != 0 && what != 1) {
      throw new NoSuchElementException();
    }
    int before = what == 0 ? wide(spots) : high(spots);
    for (int far = 1;; far++) {
      List<Spot> pushed = new ArrayList<>(spots);
      Spot spot = spots.get(block);
      pushed.set(block, what == 0 ? new Spot(spot.x + far, spot.y, spot.width, spot.height)
          : new Spot(spot.x, spot.y + far, spot.width, spot.height));
      push(pushed, what);
      if ((what == 0 ? wide(pushed) : high(pushed)) > before) {
        return far - 1;
      }
    }
  }

  private void push(List<Spot> pushed, int what) {
    boolean moved = true;
    while (moved) {
      moved = false;
      for (int a = 0; a < pushed.size(); a++) {
        for (int b = 0; b < pushed.size(); b++) {
          Spot one = pushed.get(a);
          Spot two = pushed.get(b);
          if (what == 0 && mustBeLeft(told, a, b) && !one.left(two)) {
            pushed.set(b, new Spot(one.x + one.width, two.y, two.width, two.height));
            moved = true;
          }
          if (what == 1 && mustBeBelow(told, a, b) && !one.below(two)) {
            pushed.set(b, new Spot(two.x, one.y + one.height, two.width, two.height));
            moved = true;
          }
        }
      }
    }
  }

  int wires() {
    need();
    int sum = 0;
    for (Set<Integer> net : nets) {
      List<Integer> across = new ArrayList<>();
      List<Integer> up = new ArrayList<>();
      for (int block : net) {
        Spot spot = spots.get(block);
        across.add(spot.x + spot.x + spot.width);
        up.add(spot.y + spot.y + spot.height);
      }
      if (net.size() > 1) {
        sum += Collections.max(across) - Collections.min(across);
        sum += Collections.max(up) - Collections.min(up);
      }
    }
    return sum;
  }

  boolean from() {
    if (told == null || firstClash() != null) {
      return false;
    }
    setTo(new Told(1, lineUp(true), lineUp(false), null, 0, null, null), bitsOf(turned));
    return true;
  }

  private List<Integer> lineUp(boolean one) {
    List<Integer> left = new ArrayList<>();
    for (int b = 0; b < sizes.size(); b++) {
      left.add(b);
    }
    List<Integer> order = new ArrayList<>();
    while (!left.isEmpty()) {
      Integer next = null;
      for (int b : left) {
        boolean free = left.stream().noneMatch(a -> goesAhead(spots.get(a), spots.get(b), one));
        if (free && next == null) {
          next = b;
        }
      }
      order.add(next);
      left.remove(next);
    }
    return order;
  }

  private static boolean goesAhead(Spot a, Spot b, boolean one) {
    if (one) {
      return (a.left(b) || b.below(a)) && !(a.below(b) || b.left(a));
    }
    return (a.left(b) || a.below(b)) && !(b.left(a) || b.below(a));
  }

  boolean isCut() {
    need();
    return firstClash() == null && isCut(spots);
  }

  private static boolean isCut(List<Spot> group) {
    if (group.size() < 2) {
      return true;
    }
    for (Spot edge : group) {
      for (int way = 0; way < 2; way++) {
        int line = way == 0 ? edge.x : edge.y;
        List<Spot> low = new ArrayList<>();
        List<Spot> high = new ArrayList<>();
        for (Spot spot : group) {
          int start = way == 0 ? spot.x : spot.y;
          int end = start + (way == 0 ? spot.width : spot.height);
          if (end <= line) {
            low.add(spot);
          } else if (start >= line) {
            high.add(spot);
          }
        }
        if (!low.isEmpty() && !high.isEmpty() && low.size() + high.size() == group.size()) {
          return isCut(low) && isCut(high);
        }
      }
    }
    return false;
  }

  int normal() {
    needKind(2);
    List<Integer> tokens = new ArrayList<>();
    write(parse(told.tokens), tokens);
    int changed = 0;
    for (int i = 0; i < tokens.size(); i++) {
      changed += tokens.get(i).equals(told.tokens.get(i)) ? 0 : 1;
    }
    told = new Told(2, null, null, tokens, 0, null, null);
    return changed;
  }

  private static void write(Part part, List<Integer> tokens) {
    if (part.first == null) {
      tokens.add(part.token);
      return;
    }
    List<Part> row = new ArrayList<>();
    flatten(part, part.token, row);
    write(row.get(0), tokens);
    for (int i = 1; i < row.size(); i++) {
      write(row.get(i), tokens);
      tokens.add(part.token);
    }
  }

  private static void flatten(Part part, int token, List<Part> row) {
    if (part.token != token) {
      row.add(part);
      return;
    }
    flatten(part.first, token, row);
    flatten(part.second, token, row);
  }

  int curve() {
    return shapes().size();
  }

  int shape(int i, int what) {
    int[] shape = shapeAt(i);
    if (what != 0 && what != 1) {
      throw new NoSuchElementException();
    }
    return shape[what];
  }

  int best(int i) {
    int[] shape = shapeAt(i);
    setTo(told, shape[2]);
    return shape[2];
  }

  private int[] shapeAt(int i) {
    List<int[]> shapes = shapes();
    if (i < 0 || i >= shapes.size()) {
      throw new NoSuchElementException();
    }
    return shapes.get(i);
  }

  /** Wide, high and the least turned bits of each shape, of all ways to turn. */
  private List<int[]> shapes() {
    needKind(2);
    TreeMap<Integer, int[]> byWide = new TreeMap<>();
    for (int bits : waysToTurn()) {
      List<Spot> laid = lay(told, bitsOf(bits));
      int wide = wide(laid);
      int high = high(laid);
      int[] known = byWide.get(wide);
      if (known == null || high < known[1]) {
        byWide.put(wide, new int[] {wide, high, bits});
      }
    }
    List<int[]> shapes = new ArrayList<>();
    for (int[] shape : byWide.values()) {
      if (shapes.isEmpty() || shape[1] < shapes.get(shapes.size() - 1)[1]) {
        shapes.add(shape);
      }
    }
    return shapes;
  }

  private List<Integer> waysToTurn() {
    List<Integer> ways = new ArrayList<>();
    for (int bits = 0; bits < 1 << sizes.size(); bits++) {
      if (bitsOf(turnsOf(bits)) == bits) {
        ways.add(bits);
      }
    }
    return ways;
  }

  boolean swap(int order, int i, int j) {
    if (told == null || told.kind != 1 || order < 0 || order > 1) {
      return false;
    }
    if (i < 0 || j < 0 || i >= sizes.size() || j >= sizes.size()) {
      return false;
    }
    Collections.swap(order == 0 ? told.one : told.two, i, j);
    setTo(told, bitsOf(turned));
    return true;
  }

  int least(int kind) {
    if (kind < 1 || kind > 3) {
      throw new NoSuchElementException();
    }
    if (sizes.isEmpty() || sizes.size() > 4) {
      return -1;
    }
    if (grounds == 60) {
      return -2;
    }
    grounds++;
    int least = Integer.MAX_VALUE;
    Told first = null;
    int firstBits = 0;
    for (Told some : everyTold(kind, sizes.size())) {
      for (int bits : waysToTurn()) {
        List<Spot> laid = lay(some, bitsOf(bits));
        int ground = wide(laid) * high(laid);
        if (ground < least) {
          least = ground;
          first = some;
          firstBits = bits;
        }
      }
    }
    setTo(new Told(kind, copy(first.one), copy(first.two), first.tokens, first.root, first.left,
        first.right), firstBits);
    return least;
  }

  private static List<Integer> copy(List<Integer> row) {
    return row == null ? null : new ArrayList<>(row);
  }

  /** All ways of telling n blocks, in the order that least() looks at them. */
  static List<Told> everyTold(int kind, int n) {
    List<Told> all = new ArrayList<>();
    List<List<Integer>> orders = new ArrayList<>();
    addOrders(n, new ArrayList<>(), orders);
    if (kind == 1) {
      for (List<Integer> one : orders) {
        for (List<Integer> two : orders) {
          all.add(new Told(1, one, two, null, 0, null, null));
        }
      }
    } else if (kind == 2) {
      addRows(n, new ArrayList<>(), all);
    } else {
      for (List<Integer> order : orders) {
        addTrees(order, new ArrayList<>(), all);
      }
    }
    return all;
  }

  private static void addOrders(int n, List<Integer> begun, List<List<Integer>> all) {
    if (begun.size() == n) {
      all.add(new ArrayList<>(begun));
    }
    for (int b = 0; b < n; b++) {
      if (!begun.contains(b)) {
        begun.add(b);
        addOrders(n, begun, all);
        begun.remove(begun.size() - 1);
      }
    }
  }

  /** Any tokens at all are tried; only whole rows are looked at. */
  private static void addRows(int n, List<Integer> begun, List<Told> all) {
    if (begun.size() == 2 * n - 1) {
      Part part = parse(begun, n);
      if (part != null && isNormal(part)) {
        all.add(new Told(2, null, null, new ArrayList<>(begun), 0, null, null));
      }
      return;
    }
    for (int token = 0; token <= 13; token++) {
      if (token >= 12 || token < n && !begun.contains(token)) {
        begun.add(token);
        addRows(n, begun, all);
        begun.remove(begun.size() - 1);
      }
    }
  }

  private static boolean isNormal(Part part) {
    if (part.first == null) {
      return true;
    }
    return part.second.token != part.token && isNormal(part.first) && isNormal(part.second);
  }

  /** Children of each block of the row: 3 both, 2 left, 1 right, 0 none, as they come first. */
  private static void addTrees(List<Integer> order, List<Integer> children, List<Told> all) {
    int n = order.size();
    if (children.size() == n) {
      List<Integer> left = new ArrayList<>(Collections.nCopies(n, NOBODY));
      List<Integer> right = new ArrayList<>(Collections.nCopies(n, NOBODY));
      if (grow(order, children, 0, left, right) == n) {
        all.add(new Told(3, null, null, null, order.get(0), left, right));
      }
      return;
    }
    for (int some = 3; some >= 0; some--) {
      children.add(some);
      addTrees(order, children, all);
      children.remove(children.size() - 1);
    }
  }

  /** Grows the tree under the i-th block: where its blocks end, or beyond all if they don't. */
  private static int grow(List<Integer> order, List<Integer> children, int i, List<Integer> left,
      List<Integer> right) {
    if (i >= order.size()) {
      return order.size() + 1;
    }
    int next = i + 1;
    if ((children.get(i) & 2) != 0) {
      if (next < order.size()) {
        left.set(order.get(i), order.get(next));
      }
      next = grow(order, children, next, left, right);
    }
    if ((children.get(i) & 1) != 0) {
      if (next < order.size()) {
        right.set(order.get(i), order.get(next));
      }
      next = grow(order, children, next, left, right);
    }
    return next;
  }

  long count(int kind, int n) {
    if (kind < 1 || kind > 3) {
      throw new NoSuchElementException();
    }
    if (n < 1 || n > 10) {
      return -1;
    }
    long orders = 1;
    for (int i = 2; i <= n; i++) {
      orders *= i;
    }
    return kind == 1 ? orders * orders : orders * (kind == 2 ? rowForms(n) : treeForms(n));
  }

  /** A row of k parts side by side (none of which is such a row), or the like above. */
  private static long rowForms(int n) {
    long[] ending = new long[n + 1];
    ending[1] = 1;
    for (int m = 2; m <= n; m++) {
      for (int last = 1; last < m; last++) {
        long second = last == 1 ? 1 : ending[last];
        long first = m - last == 1 ? 1 : 2 * ending[m - last];
        ending[m] += first * second;
      }
    }
    return n == 1 ? 1 : 2 * ending[n];
  }

  private static long treeForms(int n) {
    long sum = n == 0 ? 1 : 0;
    for (int left = 0; left < n; left++) {
      sum += treeForms(left) * treeForms(n - 1 - left);
    }
    return sum;
  }

  long rank() {
    needKind(1);
    return rankOf(told.one) * factorial(sizes.size()) + rankOf(told.two);
  }

  private static long rankOf(List<Integer> order) {
    List<Integer> rest = new ArrayList<>(order);
    Collections.sort(rest);
    long rank = 0;
    for (Integer block : order) {
      rank += rest.indexOf(block) * factorial(rest.size() - 1);
      rest.remove(block);
    }
    return rank;
  }

  boolean of(long rank) {
    long orders = factorial(sizes.size());
    if (sizes.isEmpty() || rank < 0 || rank > orders * orders - 1) {
      return false;
    }
    setTo(new Told(1, ranked(rank / orders), ranked(rank % orders), null, 0, null, null), 0);
    return true;
  }

  private List<Integer> ranked(long rank) {
    List<Integer> rest = new ArrayList<>();
    for (int b = 0; b < sizes.size(); b++) {
      rest.add(b);
    }
    List<Integer> order = new ArrayList<>();
    long left = rank;
    while (!rest.isEmpty()) {
      long each = factorial(rest.size() - 1);
      order.add(rest.remove((int) (left / each)));
      left %= each;
    }
    return order;
  }

  private static long factorial(int n) {
    return n < 2 ? 1 : n * factorial(n - 1);
  }

  private Size sizeOf(int block) {
    if (block < 0 || block >= sizes.size()) {
      throw new NoSuchElementException();
    }
    return sizes.get(block);
  }

  private void need() {
    if (told == null) {
      throw new NoSuchElementException();
    }
  }

  private void needKind(int kind) {
    need();
    if (told.kind != kind) {
      throw new NoSuchElementException();
    }
  }

  private void setTo(Told how, int bits) {
    told = how;
    turned = turnsOf(bits);
    spots = lay(how, turned);
  }

  private Set<Integer> turnsOf(int bits) {
    Set<Integer> turns = bitsOf(bits);
    turns.removeIf(b -> !sizes.get(b).mayTurn);
    return turns;
  }

  private Set<Integer> bitsOf(int bits) {
    Set<Integer> set = new HashSet<>();
    for (int b = 0; b < sizes.size(); b++) {
      if ((bits & 1 << b) != 0) {
        set.add(b);
      }
    }
    return set;
  }

  private static int bitsOf(Set<Integer> set) {
    int bits = 0;
    for (int b : set) {
      bits |= 1 << b;
    }
    return bits;
  }

  private static List<Integer> take(long packed, int from, int count) {
    List<Integer> numbers = new ArrayList<>();
    for (int i = from; i < from + count; i++) {
      numbers.add((int) (packed >>> 4 * i) & 15);
    }
    return numbers;
  }

  private static long give(List<Integer> numbers, int from) {
    StringBuilder digits = new StringBuilder();
    for (int i = from + 15; i >= from; i--) {
      digits.append(Integer.toHexString(i < numbers.size() ? numbers.get(i) : NOBODY));
    }
    return Long.parseUnsignedLong(digits.toString(), 16);
  }

  private boolean isOrder(List<Integer> order) {
    List<Integer> sorted = new ArrayList<>(order);
    Collections.sort(sorted);
    for (int i = 0; i < sorted.size(); i++) {
      if (sorted.get(i) != i) {
        return false;
      }
    }
    return true;
  }

  private Part parse(List<Integer> tokens) {
    return parse(tokens, sizes.size());
  }

  private static Part parse(List<Integer> tokens, int n) {
    Deque<Part> parts = new ArrayDeque<>();
    Set<Integer> seen = new HashSet<>();
    for (int token : tokens) {
      if (token < n) {
        if (!seen.add(token)) {
          return null;
        }
        parts.push(new Part(token, null, null));
      } else if (token == 12 || token == 13) {
        if (parts.size() < 2) {
          return null;
        }
        Part second = parts.pop();
        parts.push(new Part(token, parts.pop(), second));
      } else {
        return null;
      }
    }
    return parts.size() == 1 && seen.size() == n ? parts.pop() : null;
  }

  private boolean meet(int block, List<Integer> left, List<Integer> right, List<Integer> met) {
    if (block == NOBODY) {
      return true;
    }
    if (block >= sizes.size() || met.contains(block)) {
      return false;
    }
    met.add(block);
    return meet(left.get(block), left, right, met) && meet(right.get(block), left, right, met);
  }

  private int[] firstClash() {
    for (int a = 0; a < spots.size(); a++) {
      for (int b = a + 1; b < spots.size(); b++) {
        if (spots.get(a).clash(spots.get(b))) {
          return new int[] {a, b};
        }
      }
    }
    return null;
  }

  private static int wide(List<Spot> laid) {
    return laid.stream().mapToInt(s -> s.x + s.width).max().orElse(0);
  }

  private static int high(List<Spot> laid) {
    return laid.stream().mapToInt(s -> s.y + s.height).max().orElse(0);
  }

  private List<Spot> lay(Told how, Set<Integer> turns) {
    int n = sizes.size();
    int[] x = new int[n];
    int[] y = new int[n];
    int[] width = new int[n];
    int[] height = new int[n];
    for (int b = 0; b < n; b++) {
      Size size = sizes.get(b);
      width[b] = turns.contains(b) ? size.height : size.width;
      height[b] = turns.contains(b) ? size.width : size.height;
    }
    switch (how.kind) {
      case 1 -> layPair(how, new int[][] {x, y, width, height});
      case 2 -> layPart(parse(how.tokens), 0, 0, new int[][] {x, y, width, height});
      default -> layTree(how, how.root, 0, new int[][] {x, y, width, height}, new ArrayList<>());
    }
    List<Spot> laid = new ArrayList<>();
    for (int b = 0; b < n; b++) {
      laid.add(new Spot(x[b], y[b], width[b], height[b]));
    }
    return laid;
  }

  private static boolean mustBeLeft(Told how, int a, int b) {
    return how.one.indexOf(a) < how.one.indexOf(b) && how.two.indexOf(a) < how.two.indexOf(b);
  }

  private static boolean mustBeBelow(Told how, int a, int b) {
    return how.one.indexOf(a) > how.one.indexOf(b) && how.two.indexOf(a) < how.two.indexOf(b);
  }

  /** Moves blocks until every one that must be left or below is. */
  private static void layPair(Told how, int[][] at) {
    int n = at[0].length;
    for (int round = 0; round <= n; round++) {
      for (int a = 0; a < n; a++) {
        for (int b = 0; b < n; b++) {
          if (mustBeLeft(how, a, b)) {
            at[0][b] = Math.max(at[0][b], at[0][a] + at[2][a]);
          } else if (mustBeBelow(how, a, b)) {
            at[1][b] = Math.max(at[1][b], at[1][a] + at[3][a]);
          }
        }
      }
    }
  }

  /** Lays a part at a place: how wide and how high it is. */
  private static int[] layPart(Part part, int x, int y, int[][] at) {
    if (part.first == null) {
      at[0][part.token] = x;
      at[1][part.token] = y;
      return new int[] {at[2][part.token], at[3][part.token]};
    }
    int[] one = layPart(part.first, x, y, at);
    if (part.token == 12) {
      int[] two = layPart(part.second, x + one[0], y, at);
      return new int[] {one[0] + two[0], Math.max(one[1], two[1])};
    }
    int[] two = layPart(part.second, x, y + one[1], at);
    return new int[] {Math.max(one[0], two[0]), one[1] + two[1]};
  }

  private static void layTree(Told how, int block, int x, int[][] at, List<Integer> laid) {
    if (block == NOBODY) {
      return;
    }
    at[0][block] = x;
    for (int other : laid) {
      int start = Math.max(x, at[0][other]);
      int end = Math.min(x + at[2][block], at[0][other] + at[2][other]);
      if (start < end) {
        at[1][block] = Math.max(at[1][block], at[1][other] + at[3][other]);
      }
    }
    laid.add(block);
    layTree(how, how.left.get(block), x + at[2][block], at, laid);
    layTree(how, how.right.get(block), x, at, laid);
  }
}
