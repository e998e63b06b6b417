import java.util.NoSuchElementException;

/**
 * A bench on which right-angled blocks are laid on a ground: told by places, by a pair of orders,
 * by a row of cuts or by a tree. Each public method keeps the promise of its name in DOC.md.
 */
public final class GroundPlan {
  /** There is none. */
  public static final int NONE = -1;

  private static final int MOST_BLOCKS = 12;
  private static final int MOST_SIDE = 200;
  private static final int MOST_NETS = 20;
  private static final int MOST_PLACE = 10000;
  private static final int MOST_TOKENS = 23;
  private static final int NIBBLES = 16;
  private static final int BESIDE = 12;
  private static final int ABOVE = 13;
  private static final int NOBODY = 15;

  private static final int PLACES = 0;
  private static final int PAIR = 1;
  private static final int CUTS = 2;
  private static final int TREE = 3;

  private static final int MOST_SEARCHED = 4;
  private static final int MOST_SEARCHES = 60;
  private static final int SEARCHED_OUT = -2;
  private static final int MOST_COUNTED = 10;
  /** More than any place or ground. */
  private static final int BOUNDLESS = 0x7FFFFFFF;

  private static final long[] FACTORIALS = {
    1L, 1L, 2L, 6L, 24L, 120L, 720L, 5040L, 40320L, 362880L, 3628800L, 39916800L, 479001600L
  };
  /** Rows of cuts by the number of blocks, the blocks' order aside. */
  private static final long[] CUT_FORMS = {
    0L, 1L, 2L, 6L, 22L, 90L, 394L, 1806L, 8558L, 41586L, 206098L
  };
  /** Trees by the number of blocks, the blocks' order aside. */
  private static final long[] TREE_FORMS = {
    0L, 1L, 2L, 5L, 14L, 42L, 132L, 429L, 1430L, 4862L, 16796L
  };

  private final Blocks blocks;
  private final int[] nets;
  private final Ground ground;
  private final Orders orders;
  private final Row row;
  private final Kin kin;
  private final Outline outline;
  private final Search search;
  private int kind;
  private int searches;

  public GroundPlan() {
    blocks = new Blocks();
    nets = new int[MOST_NETS];
    ground = new Ground();
    orders = new Orders();
    row = new Row();
    kin = new Kin();
    outline = new Outline();
    search = new Search(blocks);
    kind = NONE;
    searches = 0;
  }

  public int block(int width, int height, boolean mayTurn) {
    if (blocks.size >= MOST_BLOCKS || !isSide(width) || !isSide(height)) {
      return NONE;
    }
    endLaying();
    return blocks.add(width, height, mayTurn);
  }

  public int less() {
    if (blocks.size == 0) {
      return NONE;
    }
    endLaying();
    blocks.drop();
    for (int i = 0; i < MOST_NETS; i++) {
      nets[i] &= blocks.everyone();
    }
    return blocks.size;
  }

  public int side(int block, int what) throws NoSuchElementException {
    needBlock(block);
    switch (what) {
      case 0:
        return blocks.width[block];
      case 1:
        return blocks.height[block];
      case 2:
        return bitOf(blocks.turnable, block);
      default:
        throw new NoSuchElementException("no such side");
    }
  }

  public int net(int net, int blocks) throws NoSuchElementException {
    if (net < 0 || net >= MOST_NETS) {
      throw new NoSuchElementException("no such net");
    }
    nets[net] = blocks & this.blocks.everyone();
    return Integer.bitCount(nets[net]);
  }

  public boolean places() {
    if (blocks.size == 0) {
      return false;
    }
    if (kind == NONE) {
      ground.gather(blocks);
    }
    kind = PLACES;
    return true;
  }

  public boolean put(int block, int x, int y, boolean turned) throws NoSuchElementException {
    needBlock(block);
    if (kind != PLACES || !isPlace(x) || !isPlace(y)) {
      return false;
    }
    if (turned && bitOf(blocks.turnable, block) == 0) {
      return false;
    }
    ground.x[block] = x;
    ground.y[block] = y;
    ground.turn(blocks, block, turned);
    return true;
  }

  public boolean pair(long one, long two, int turned) {
    int size = blocks.size;
    if (size == 0 || !Orders.isOrder(one, size) || !Orders.isOrder(two, size)) {
      return false;
    }
    orders.read(one, two, size);
    layOut(orders, PAIR, turned);
    return true;
  }

  public boolean cuts(long a, long b, int turned) {
    if (blocks.size == 0 || !Row.isRow(a, b, blocks.size)) {
      return false;
    }
    row.read(a, b, blocks.size);
    layOut(row, CUTS, turned);
    return true;
  }

  public boolean tree(int root, long left, long right, int turned) {
    if (blocks.size == 0 || !Kin.isTree(root, left, right, blocks.size)) {
      return false;
    }
    kin.read(root, left, right, blocks.size);
    layOut(kin, TREE, turned);
    return true;
  }

  public int about(int what) throws NoSuchElementException {
    needLaying();
    switch (what) {
      case 0:
        return kind;
      case 1:
        return ground.wide();
      case 2:
        return ground.high();
      case 3:
        return ground.area();
      case 4:
        return ground.area() - blocks.area();
      case 5:
        return ground.firstClash() == NONE ? 1 : 0;
      case 6:
        return Ground.firstOf(ground.firstClash());
      case 7:
        return Ground.secondOf(ground.firstClash());
      default:
        throw new NoSuchElementException("nothing such about a laying");
    }
  }

  public int at(int block, int what) throws NoSuchElementException {
    needLaying();
    needBlock(block);
    switch (what) {
      case 0:
        return ground.x[block];
      case 1:
        return ground.y[block];
      case 2:
        return ground.width[block];
      case 3:
        return ground.height[block];
      case 4:
        return bitOf(ground.turned, block);
      default:
        throw new NoSuchElementException("nothing such of a block");
    }
  }

  public long told(int what) throws NoSuchElementException {
    switch (what) {
      case 0:
        needKind(PAIR);
        return pack(orders.one, 0, orders.size);
      case 1:
        needKind(PAIR);
        return pack(orders.two, 0, orders.size);
      case 2:
        needKind(CUTS);
        return pack(row.tokens, 0, row.length);
      case 3:
        needKind(CUTS);
        return pack(row.tokens, NIBBLES, row.length);
      case 4:
        needKind(TREE);
        return pack(kin.left, 0, kin.size);
      case 5:
        needKind(TREE);
        return pack(kin.right, 0, kin.size);
      case 6:
        needKind(TREE);
        return kin.root;
      default:
        throw new NoSuchElementException("nothing such is told");
    }
  }

  public int slack(int block, int what) throws NoSuchElementException {
    needKind(PAIR);
    needBlock(block);
    switch (what) {
      case 0:
        return orders.roomRight(ground, block);
      case 1:
        return orders.roomUp(ground, block);
      default:
        throw new NoSuchElementException("no such way to slide");
    }
  }

  public int wires() throws NoSuchElementException {
    needLaying();
    int sum = 0;
    for (int i = 0; i < MOST_NETS; i++) {
      sum += ground.boxAround(nets[i]);
    }
    return sum;
  }

  public boolean from() {
    if (kind == NONE || ground.firstClash() != NONE) {
      return false;
    }
    orders.readPlaces(ground);
    layOut(orders, PAIR, ground.turned);
    return true;
  }

  public boolean isCut() throws NoSuchElementException {
    needLaying();
    return ground.firstClash() == NONE && ground.canBeParted();
  }

  public int normal() throws NoSuchElementException {
    needKind(CUTS);
    return row.makeNormal();
  }

  public int curve() throws NoSuchElementException {
    needKind(CUTS);
    outline.draw(row, blocks, blocks.turnable, 0);
    return outline.size;
  }

  public int shape(int i, int what) throws NoSuchElementException {
    drawWith(i);
    switch (what) {
      case 0:
        return outline.wide[i];
      case 1:
        return outline.high[i];
      default:
        throw new NoSuchElementException("no such side of a shape");
    }
  }

  public int best(int i) throws NoSuchElementException {
    drawWith(i);
    int turned = outline.leastTurns(row, blocks, outline.wide[i], outline.high[i]);
    layOut(row, CUTS, turned);
    return turned;
  }

  public boolean swap(int order, int i, int j) {
    if (kind != PAIR || !blocks.has(i) || !blocks.has(j)) {
      return false;
    }
    if (order != 0 && order != 1) {
      return false;
    }
    orders.exchangeIn(order, i, j);
    layOut(orders, PAIR, ground.turned);
    return true;
  }

  public int least(int kind) throws NoSuchElementException {
    needCountable(kind);
    if (blocks.size == 0 || blocks.size > MOST_SEARCHED) {
      return NONE;
    }
    if (searches >= MOST_SEARCHES) {
      return SEARCHED_OUT;
    }
    searches++;
    Found found = search.find(kind);
    layFound(kind, found);
    return found.ground;
  }

  public long count(int kind, int n) throws NoSuchElementException {
    needCountable(kind);
    if (n < 1 || n > MOST_COUNTED) {
      return NONE;
    }
    long rows = factorial(n);
    if (kind == PAIR) {
      return rows * rows;
    }
    return rows * (kind == CUTS ? CUT_FORMS[n] : TREE_FORMS[n]);
  }

  public long rank() throws NoSuchElementException {
    needKind(PAIR);
    return orders.number();
  }

  public boolean of(long rank) {
    long rows = factorial(blocks.size);
    if (blocks.size == 0 || rank < 0 || rank >= rows * rows) {
      return false;
    }
    orders.readNumber(rank, blocks.size);
    layOut(orders, PAIR, 0);
    return true;
  }

  private void needBlock(int block) {
    if (!blocks.has(block)) {
      throw new NoSuchElementException("no such block");
    }
  }

  private void needLaying() {
    if (kind == NONE) {
      throw new NoSuchElementException("there is no laying");
    }
  }

  private void needKind(int wanted) {
    if (kind != wanted) {
      throw new NoSuchElementException("the laying is not of that kind");
    }
  }

  private static void needCountable(int kind) {
    if (kind != PAIR && kind != CUTS && kind != TREE) {
      throw new NoSuchElementException("no such kind");
    }
  }

  private void drawWith(int i) {
    needKind(CUTS);
    outline.draw(row, blocks, blocks.turnable, 0);
    if (i < 0 || i >= outline.size) {
      throw new NoSuchElementException("no such shape");
    }
  }

  private void endLaying() {
    kind = NONE;
    search.forget();
  }

  private void layOut(Telling telling, int newKind, int turned) {
    ground.take(blocks, turned);
    telling.lay(ground);
    kind = newKind;
  }

  private void layFound(int wanted, Found found) {
    switch (wanted) {
      case PAIR:
        pair(found.a, found.b, found.turned);
        break;
      case CUTS:
        cuts(found.a, found.b, found.turned);
        break;
      default:
        tree(found.root, found.a, found.b, found.turned);
        break;
    }
  }

  private static boolean isSide(int length) {
    return length >= 1 && length <= MOST_SIDE;
  }

  private static boolean isPlace(int place) {
    return place >= 0 && place <= MOST_PLACE;
  }

  private static int bitOf(int bits, int block) {
    return bits >> block & 1;
  }

  private static long factorial(int n) {
    return n >= 0 && n < FACTORIALS.length ? FACTORIALS[n] : 1L;
  }

  private static int nibble(long told, int i) {
    return (int) (told >> 4 * i & 15L);
  }

  /** Up to sixteen numbers of a row from a place on, and 15s behind the last one. */
  private static long pack(int[] numbers, int from, int end) {
    long packed = -1L;
    for (int i = 0; i < NIBBLES && from + i < end; i++) {
      packed = packed & ~(15L << 4 * i) | (long) numbers[from + i] << 4 * i;
    }
    return packed;
  }

  private static void exchange(int[] numbers, int i, int j) {
    int kept = numbers[i];
    numbers[i] = numbers[j];
    numbers[j] = kept;
  }

  /** The blocks on the bench, not turned. */
  private static final class Blocks {
    final int[] width = new int[MOST_BLOCKS];
    final int[] height = new int[MOST_BLOCKS];
    int turnable;
    int size;

    boolean has(int block) {
      return block >= 0 && block < size;
    }

    int everyone() {
      return (1 << size) - 1;
    }

    int add(int newWidth, int newHeight, boolean mayTurn) {
      int number = size;
      if (number < MOST_BLOCKS) {
        width[number] = newWidth;
        height[number] = newHeight;
        turnable |= (mayTurn ? 1 : 0) << number;
        size++;
      }
      return number;
    }

    void drop() {
      size--;
      turnable &= everyone();
    }

    int area() {
      int sum = 0;
      for (int b = 0; b < size; b++) {
        sum += width[b] * height[b];
      }
      return sum;
    }

    /** Those that turning makes another shape: turning a square never helps. */
    int changedByTurning() {
      int bits = turnable;
      for (int b = 0; b < size; b++) {
        if (width[b] == height[b]) {
          bits &= ~(1 << b);
        }
      }
      return bits;
    }
  }

  /** Where the blocks lie, and their sides as they lie. */
  private static final class Ground {
    final int[] x = new int[MOST_BLOCKS];
    final int[] y = new int[MOST_BLOCKS];
    final int[] width = new int[MOST_BLOCKS];
    final int[] height = new int[MOST_BLOCKS];
    private final int[] groups = new int[MOST_BLOCKS + 1];
    int turned;
    int size;

    void take(Blocks blocks, int bits) {
      size = blocks.size;
      turned = bits & blocks.turnable;
      for (int b = 0; b < size; b++) {
        setSides(blocks, b);
      }
    }

    void gather(Blocks blocks) {
      take(blocks, 0);
      for (int b = 0; b < size; b++) {
        x[b] = 0;
        y[b] = 0;
      }
    }

    void turn(Blocks blocks, int block, boolean over) {
      turned = over ? turned | 1 << block : turned & ~(1 << block);
      setSides(blocks, block);
    }

    private void setSides(Blocks blocks, int block) {
      boolean over = bitOf(turned, block) == 1;
      width[block] = over ? blocks.height[block] : blocks.width[block];
      height[block] = over ? blocks.width[block] : blocks.height[block];
    }

    int wide() {
      return reach(x, width);
    }

    int high() {
      return reach(y, height);
    }

    /** Both ways at once: the search asks for it most. */
    int area() {
      int wide = 0;
      int high = 0;
      for (int b = 0; b < size; b++) {
        wide = Math.max(wide, x[b] + width[b]);
        high = Math.max(high, y[b] + height[b]);
      }
      return wide * high;
    }

    private int reach(int[] place, int[] length) {
      int most = 0;
      for (int b = 0; b < size; b++) {
        most = Math.max(most, place[b] + length[b]);
      }
      return most;
    }

    boolean isLeft(int a, int b) {
      return x[a] + width[a] <= x[b];
    }

    boolean isBelow(int a, int b) {
      return y[a] + height[a] <= y[b];
    }

    private boolean doClash(int a, int b) {
      return !isLeft(a, b) && !isLeft(b, a) && !isBelow(a, b) && !isBelow(b, a);
    }

    /** The first two that clash as one number, which firstOf and secondOf take apart, or NONE. */
    int firstClash() {
      for (int a = 0; a < size; a++) {
        for (int b = a + 1; b < size; b++) {
          if (doClash(a, b)) {
            return a << 4 | b;
          }
        }
      }
      return NONE;
    }

    static int firstOf(int clash) {
      return clash == NONE ? NONE : clash >> 4;
    }

    static int secondOf(int clash) {
      return clash == NONE ? NONE : clash & 15;
    }

    /** Twice half the way round the middles: middles are taken twice, so that they are whole. */
    int boxAround(int bits) {
      return Integer.bitCount(bits) < 2 ? 0 : span(bits, x, width) + span(bits, y, height);
    }

    private int span(int bits, int[] place, int[] length) {
      int lowest = BOUNDLESS;
      int highest = 0;
      for (int b = 0; b < size; b++) {
        if (bitOf(bits, b) == 1) {
          int middle = 2 * place[b] + length[b];
          lowest = Math.min(lowest, middle);
          highest = Math.max(highest, middle);
        }
      }
      return highest - lowest;
    }

    /**
     * Any line will do for a group: a line that parts a group parts each of its parts that it
     * crosses, so a first line never spoils a later one.
     */
    boolean canBeParted() {
      int open = 1;
      groups[0] = (1 << size) - 1;
      for (int step = 0; step < 2 * MOST_BLOCKS && open > 0; step++) {
        open--;
        int group = groups[open];
        if (Integer.bitCount(group) > 1) {
          int low = partOf(group);
          if (low == 0 || open + 2 > groups.length) {
            return false;
          }
          groups[open] = low;
          groups[open + 1] = group & ~low;
          open += 2;
        }
      }
      return true;
    }

    /** Those of a group on the lower side of a line that parts it, 0 if there is no such line. */
    private int partOf(int group) {
      for (int b = 0; b < size; b++) {
        if (bitOf(group, b) == 1) {
          int low = partAt(group, x, width, x[b] + width[b]);
          if (low == 0) {
            low = partAt(group, y, height, y[b] + height[b]);
          }
          if (low != 0) {
            return low;
          }
        }
      }
      return 0;
    }

    private int partAt(int group, int[] place, int[] length, int line) {
      int low = 0;
      for (int b = 0; b < size; b++) {
        if (bitOf(group, b) == 1) {
          if (place[b] + length[b] <= line) {
            low |= 1 << b;
          } else if (place[b] < line) {
            return 0;
          }
        }
      }
      return low == group ? 0 : low;
    }
  }

  /** A way of telling where blocks lie. */
  private abstract static class Telling {
    abstract void lay(Ground ground);
  }

  /** A pair: the two orders of all blocks. */
  private static final class Orders extends Telling {
    final int[] one = new int[MOST_BLOCKS];
    final int[] two = new int[MOST_BLOCKS];
    private final int[] placeInOne = new int[MOST_BLOCKS];
    private final int[] chain = new int[MOST_BLOCKS];
    private final int[] ahead = new int[MOST_BLOCKS];
    int size;

    static boolean isOrder(long told, int size) {
      int seen = 0;
      for (int i = 0; i < size; i++) {
        int block = nibble(told, i);
        if (block >= size) {
          return false;
        }
        seen |= 1 << block;
      }
      return seen == (1 << size) - 1;
    }

    void read(long toldOne, long toldTwo, int newSize) {
      size = newSize;
      for (int i = 0; i < size; i++) {
        one[i] = nibble(toldOne, i);
        two[i] = nibble(toldTwo, i);
      }
      notePlaces();
    }

    /** Both orders as the numbers rise. */
    void begin(int newSize) {
      size = newSize;
      for (int i = 0; i < size; i++) {
        one[i] = i;
        two[i] = i;
      }
      notePlaces();
    }

    void notePlaces() {
      for (int i = 0; i < size; i++) {
        placeInOne[one[i]] = i;
      }
    }

    void exchangeIn(int order, int i, int j) {
      exchange(order == 0 ? one : two, i, j);
      notePlaces();
    }

    /** All that must be left of a block or below it are ahead of it in TWO: one way through does. */
    void lay(Ground ground) {
      for (int j = 0; j < size; j++) {
        int b = two[j];
        int x = 0;
        int y = 0;
        for (int i = 0; i < j; i++) {
          int a = two[i];
          if (placeInOne[a] < placeInOne[b]) {
            x = Math.max(x, ground.x[a] + ground.width[a]);
          } else {
            y = Math.max(y, ground.y[a] + ground.height[a]);
          }
        }
        ground.x[b] = x;
        ground.y[b] = y;
      }
    }

    int roomRight(Ground ground, int block) {
      measureChains(ground.width, true);
      return ground.wide() - ground.x[block] - chain[block];
    }

    int roomUp(Ground ground, int block) {
      measureChains(ground.height, false);
      return ground.high() - ground.y[block] - chain[block];
    }

    /** For each block how long it and the longest row of those that it must push are. */
    private void measureChains(int[] length, boolean rightward) {
      for (int i = size - 1; i >= 0; i--) {
        int a = two[i];
        int longest = 0;
        for (int j = i + 1; j < size; j++) {
          int b = two[j];
          if (placeInOne[a] < placeInOne[b] == rightward) {
            longest = Math.max(longest, chain[b]);
          }
        }
        chain[a] = length[a] + longest;
      }
    }

    void readPlaces(Ground ground) {
      size = ground.size;
      noteAheadInOne(ground);
      sortOut(one);
      noteAheadInTwo(ground);
      sortOut(two);
      notePlaces();
    }

    private void noteAheadInOne(Ground ground) {
      for (int b = 0; b < size; b++) {
        ahead[b] = 0;
        for (int a = 0; a < size; a++) {
          boolean goes = ground.isLeft(a, b) || ground.isBelow(b, a);
          if (goes && !ground.isBelow(a, b) && !ground.isLeft(b, a)) {
            ahead[b] |= 1 << a;
          }
        }
      }
    }

    private void noteAheadInTwo(Ground ground) {
      for (int b = 0; b < size; b++) {
        ahead[b] = 0;
        for (int a = 0; a < size; a++) {
          boolean goes = ground.isLeft(a, b) || ground.isBelow(a, b);
          if (goes && !ground.isLeft(b, a) && !ground.isBelow(b, a)) {
            ahead[b] |= 1 << a;
          }
        }
      }
    }

    private void sortOut(int[] order) {
      int waiting = (1 << size) - 1;
      for (int i = 0; i < size; i++) {
        order[i] = firstFree(waiting);
        waiting &= ~(1 << order[i]);
      }
    }

    /** Without a clash some block is always free; the last lines only keep the answer a block. */
    private int firstFree(int waiting) {
      for (int b = 0; b < size; b++) {
        if (bitOf(waiting, b) == 1 && (ahead[b] & waiting) == 0) {
          return b;
        }
      }
      return nthOf(waiting, 0);
    }

    long number() {
      return numberOf(one) * factorial(size) + numberOf(two);
    }

    private long numberOf(int[] order) {
      long number = 0L;
      for (int i = 0; i < size; i++) {
        int lesser = 0;
        for (int j = i + 1; j < size; j++) {
          if (order[j] < order[i]) {
            lesser++;
          }
        }
        number = number * (size - i) + lesser;
      }
      return number;
    }

    void readNumber(long number, int newSize) {
      size = newSize;
      long rows = factorial(size);
      if (rows > 0L) {
        fill(one, number / rows);
        fill(two, number % rows);
      }
      notePlaces();
    }

    private void fill(int[] order, long number) {
      int waiting = (1 << size) - 1;
      long rest = number;
      for (int i = 0; i < size; i++) {
        long rows = factorial(size - 1 - i);
        int skipped = 0;
        if (rows > 0L) {
          skipped = (int) (rest / rows);
          rest = rest % rows;
        }
        order[i] = nthOf(waiting, skipped);
        waiting &= ~(1 << order[i]);
      }
    }

    private int nthOf(int bits, int n) {
      int skipped = 0;
      for (int b = 0; b < size; b++) {
        if (bitOf(bits, b) == 1) {
          if (skipped == n) {
            return b;
          }
          skipped++;
        }
      }
      return 0;
    }
  }

  /** Cuts: the row of tokens. */
  private static final class Row extends Telling {
    final int[] tokens = new int[MOST_TOKENS];
    private final int[] before = new int[MOST_TOKENS];
    private final int[] members = new int[MOST_BLOCKS];
    private final int[] wide = new int[MOST_BLOCKS];
    private final int[] high = new int[MOST_BLOCKS];
    int length;

    private static int tokenAt(long a, long b, int i) {
      return i < NIBBLES ? nibble(a, i) : nibble(b, i - NIBBLES);
    }

    static boolean isRow(long a, long b, int size) {
      int seen = 0;
      int parts = 0;
      for (int i = 0; i < 2 * size - 1; i++) {
        int token = tokenAt(a, b, i);
        if (token < size && bitOf(seen, token) == 0) {
          seen |= 1 << token;
          parts++;
        } else if ((token == BESIDE || token == ABOVE) && parts > 1) {
          parts--;
        } else {
          return false;
        }
      }
      return parts == 1;
    }

    void read(long a, long b, int size) {
      length = 2 * size - 1;
      for (int i = 0; i < length; i++) {
        tokens[i] = tokenAt(a, b, i);
      }
    }

    void lay(Ground ground) {
      int parts = 0;
      for (int i = 0; i < length; i++) {
        int token = tokens[i];
        if (token < BESIDE) {
          ground.x[token] = 0;
          ground.y[token] = 0;
          members[parts] = 1 << token;
          wide[parts] = ground.width[token];
          high[parts] = ground.height[token];
          parts++;
        } else if (parts > 1) {
          parts--;
          join(ground, token, parts - 1);
        }
      }
    }

    private void join(Ground ground, int token, int first) {
      int second = first + 1;
      if (token == BESIDE) {
        shift(ground.x, members[second], wide[first]);
        wide[first] += wide[second];
        high[first] = Math.max(high[first], high[second]);
      } else {
        shift(ground.y, members[second], high[first]);
        high[first] += high[second];
        wide[first] = Math.max(wide[first], wide[second]);
      }
      members[first] |= members[second];
    }

    private static void shift(int[] place, int bits, int far) {
      for (int b = 0; b < MOST_BLOCKS; b++) {
        if (bitOf(bits, b) == 1) {
          place[b] += far;
        }
      }
    }

    /**
     * A second part ends just ahead of its joint, so a row is normal if no joint stands twice in
     * succession. Where one does, p (q r +) + becomes (p q +) r +, which lays the same places.
     */
    int makeNormal() {
      System.arraycopy(tokens, 0, before, 0, length);
      int most = MOST_TOKENS * MOST_TOKENS;
      for (int step = 0; step < most; step++) {
        int i = firstTwice();
        if (i == NONE) {
          break;
        }
        moveForward(i, startOfPart(i - 1));
      }
      return countChanged();
    }

    /** The place of the first of two like joints in succession. */
    private int firstTwice() {
      for (int i = 1; i < length; i++) {
        if (tokens[i] >= BESIDE && tokens[i] == tokens[i - 1]) {
          return i - 1;
        }
      }
      return NONE;
    }

    private int startOfPart(int end) {
      int wanted = 1;
      for (int i = end; i >= 0; i--) {
        wanted += tokens[i] < BESIDE ? -1 : 1;
        if (wanted == 0) {
          return i;
        }
      }
      return 0;
    }

    private void moveForward(int i, int start) {
      int token = tokens[i];
      for (int k = i; k > start; k--) {
        tokens[k] = tokens[k - 1];
      }
      tokens[start] = token;
    }

    private int countChanged() {
      int changed = 0;
      for (int i = 0; i < length; i++) {
        if (tokens[i] != before[i]) {
          changed++;
        }
      }
      return changed;
    }
  }

  /** A tree: its root and each block's children, NOBODY where there is none. */
  private static final class Kin extends Telling {
    final int[] left = new int[MOST_BLOCKS];
    final int[] right = new int[MOST_BLOCKS];
    private final int[] open = new int[2 * MOST_BLOCKS];
    private final int[] laid = new int[MOST_BLOCKS];
    int root;
    int size;

    /** With one child fewer than blocks, a walk that meets all of them meets each just once. */
    static boolean isTree(int root, long left, long right, int size) {
      if (root < 0 || root >= size) {
        return false;
      }
      int children = 0;
      for (int b = 0; b < size; b++) {
        int onLeft = nibble(left, b);
        int onRight = nibble(right, b);
        if (!isChild(onLeft, size) || !isChild(onRight, size)) {
          return false;
        }
        children += (onLeft == NOBODY ? 0 : 1) + (onRight == NOBODY ? 0 : 1);
      }
      return children == size - 1 && metFrom(root, left, right, size) == (1 << size) - 1;
    }

    private static boolean isChild(int told, int size) {
      return told < size || told == NOBODY;
    }

    private static int metFrom(int root, long left, long right, int size) {
      int met = 1 << root;
      for (int round = 1; round < size; round++) {
        for (int b = 0; b < size; b++) {
          if (bitOf(met, b) == 1) {
            met |= 1 << nibble(left, b) | 1 << nibble(right, b);
          }
        }
        met &= (1 << size) - 1;
      }
      return met;
    }

    void read(int newRoot, long toldLeft, long toldRight, int newSize) {
      size = newSize;
      root = newRoot;
      for (int b = 0; b < size; b++) {
        left[b] = nibble(toldLeft, b);
        right[b] = nibble(toldRight, b);
      }
    }

    /**
     * The tree whose blocks are laid in the order of a row and whose children are told by two bits
     * a block, the first block's highest: 0 both, 1 left alone, 2 right alone, 3 none. False: there
     * is none such.
     */
    boolean grow(int[] order, int newSize, int form) {
      size = newSize;
      root = order[0];
      int slots = 0;
      for (int i = 0; i < size; i++) {
        int b = order[i];
        left[b] = NOBODY;
        right[b] = NOBODY;
        if (i > 0) {
          if (slots == 0) {
            return false;
          }
          slots--;
          attach(open[slots], b);
        }
        int children = form >> 2 * (size - 1 - i) & 3;
        if (children == 0 || children == 2) {
          open[slots++] = b << 1 | 1;
        }
        if (children == 0 || children == 1) {
          open[slots++] = b << 1;
        }
      }
      return slots == 0;
    }

    private void attach(int slot, int child) {
      int parent = slot >> 1;
      if ((slot & 1) == 0) {
        left[parent] = child;
      } else {
        right[parent] = child;
      }
    }

    void lay(Ground ground) {
      int waiting = 1;
      open[0] = root;
      ground.x[root] = 0;
      for (int i = 0; i < size && waiting > 0; i++) {
        waiting--;
        int b = open[waiting];
        ground.y[b] = topUnder(ground, b, i);
        laid[i] = b;
        if (right[b] != NOBODY) {
          ground.x[right[b]] = ground.x[b];
          open[waiting++] = right[b];
        }
        if (left[b] != NOBODY) {
          ground.x[left[b]] = ground.x[b] + ground.width[b];
          open[waiting++] = left[b];
        }
      }
    }

    private int topUnder(Ground ground, int b, int sofar) {
      int top = 0;
      for (int i = 0; i < sofar; i++) {
        int a = laid[i];
        if (!ground.isLeft(a, b) && !ground.isLeft(b, a)) {
          top = Math.max(top, ground.y[a] + ground.height[a]);
        }
      }
      return top;
    }
  }

  /**
   * The shapes that cuts can take, by rising width and so by falling height. A part of k blocks has
   * at most k + 1 of them, so that all parts of a row need at most two places a block.
   */
  private static final class Outline {
    final int[] wide = new int[2 * MOST_BLOCKS + 2];
    final int[] high = new int[2 * MOST_BLOCKS + 2];
    private final int[] joinedWide = new int[2 * MOST_BLOCKS + 2];
    private final int[] joinedHigh = new int[2 * MOST_BLOCKS + 2];
    private final int[] starts = new int[MOST_BLOCKS + 1];
    int size;

    /** Blocks of the open bits lie either way, the others as the turned bits tell. */
    void draw(Row row, Blocks blocks, int open, int turned) {
      size = 0;
      int parts = 0;
      for (int i = 0; i < row.length; i++) {
        int token = row.tokens[i];
        if (token < BESIDE) {
          starts[parts] = size;
          parts++;
          addBlock(blocks.width[token], blocks.height[token], bitOf(open, token), bitOf(turned, token));
        } else if (parts > 1) {
          parts--;
          int first = starts[parts - 1];
          if (token == BESIDE) {
            takeJoined(first, joinBeside(first, starts[parts]));
          } else {
            takeJoinedBackward(first, joinAbove(first, starts[parts]));
          }
        }
      }
    }

    private void addBlock(int width, int height, int open, int turned) {
      if (open == 1 && width != height) {
        addShape(Math.min(width, height), Math.max(width, height));
        addShape(Math.max(width, height), Math.min(width, height));
      } else if (turned == 1) {
        addShape(height, width);
      } else {
        addShape(width, height);
      }
    }

    private void addShape(int newWide, int newHigh) {
      if (size < wide.length) {
        wide[size] = newWide;
        high[size] = newHigh;
        size++;
      }
    }

    private void takeJoined(int first, int joined) {
      size = first;
      for (int k = 0; k < joined; k++) {
        addShape(joinedWide[k], joinedHigh[k]);
      }
    }

    private void takeJoinedBackward(int first, int joined) {
      size = first;
      for (int k = joined - 1; k >= 0; k--) {
        addShape(joinedWide[k], joinedHigh[k]);
      }
    }

    /** The higher one alone makes the height: only another shape of it can bring that down. */
    private int joinBeside(int first, int second) {
      int i = first;
      int j = second;
      int joined = 0;
      while (i < second && j < size && joined < joinedWide.length) {
        int one = high[i];
        int two = high[j];
        joinedWide[joined] = wide[i] + wide[j];
        joinedHigh[joined] = Math.max(one, two);
        joined++;
        i += one >= two ? 1 : 0;
        j += two >= one ? 1 : 0;
      }
      return joined;
    }

    /** As joinBeside, from the widest on, so that the shapes come out by falling width. */
    private int joinAbove(int first, int second) {
      int i = second - 1;
      int j = size - 1;
      int joined = 0;
      while (i >= first && j >= second && joined < joinedWide.length) {
        int one = wide[i];
        int two = wide[j];
        joinedWide[joined] = Math.max(one, two);
        joinedHigh[joined] = high[i] + high[j];
        joined++;
        i -= one >= two ? 1 : 0;
        j -= two >= one ? 1 : 0;
      }
      return joined;
    }

    int leastArea() {
      int area = BOUNDLESS;
      for (int i = 0; i < size; i++) {
        area = Math.min(area, wide[i] * high[i]);
      }
      return area;
    }

    private boolean holds(int wantedWide, int wantedHigh) {
      for (int i = 0; i < size; i++) {
        if (wide[i] == wantedWide && high[i] == wantedHigh) {
          return true;
        }
      }
      return false;
    }

    /** The highest bits weigh most: each is set only if the lower ones can't do without it. */
    int leastTurns(Row row, Blocks blocks, int wantedWide, int wantedHigh) {
      int open = blocks.turnable;
      int turned = 0;
      for (int b = blocks.size - 1; b >= 0; b--) {
        if (bitOf(open, b) == 1) {
          open &= ~(1 << b);
          draw(row, blocks, open, turned);
          if (!holds(wantedWide, wantedHigh)) {
            turned |= 1 << b;
          }
        }
      }
      return turned;
    }
  }

  /** What a search found: a ground (0 before it), and how its laying is told. */
  private static final class Found {
    int ground;
    int root;
    long a;
    long b;
    int turned;
  }

  /** The search for the least ground; its finds are kept as long as the blocks stay. */
  private static final class Search {
    private final Blocks blocks;
    private final Found[] finds = new Found[TREE + 1];
    private final Ground trial = new Ground();
    private final Orders orders = new Orders();
    private final Row row = new Row();
    private final Kin kin = new Kin();
    private final Outline outline = new Outline();
    private Found found;
    private int size;
    private int turnable;
    private int floor;

    Search(Blocks blocks) {
      this.blocks = blocks;
      for (int k = 0; k <= TREE; k++) {
        finds[k] = new Found();
      }
      found = finds[0];
    }

    void forget() {
      for (int k = 0; k <= TREE; k++) {
        finds[k].ground = 0;
      }
    }

    Found find(int kind) {
      found = finds[kind >= PAIR && kind <= TREE ? kind : PAIR];
      if (found.ground == 0) {
        prepare();
        if (kind == CUTS) {
          searchCuts();
        } else if (kind == TREE) {
          searchTrees();
        } else {
          searchPairs();
        }
      }
      return found;
    }

    private void prepare() {
      size = Math.min(blocks.size, MOST_SEARCHED);
      turnable = blocks.changedByTurning();
      floor = blocks.area();
      found.ground = BOUNDLESS;
    }

    /** No ground is less than the blocks' own, so what has come down to that stays the first. */
    private boolean isDone() {
      return found.ground == floor;
    }

    private void searchPairs() {
      long rows = factorial(size);
      orders.begin(size);
      for (long i = 0L; i < rows && !isDone(); i++) {
        for (long j = 0L; j < rows; j++) {
          if (mayBeFirst() && comesLower(orders)) {
            found.a = pack(orders.one, 0, size);
            found.b = pack(orders.two, 0, size);
          }
          nextOrder(orders.two);
        }
        nextOrder(orders.one);
        orders.notePlaces();
      }
    }

    /**
     * The two orders changed for one another, each backward, or both, lay the same mirrored, on the
     * same ground. A pair whose ONE would begin with a lesser number then is never the first.
     */
    private boolean mayBeFirst() {
      int corner = orders.one[0];
      return corner <= orders.one[size - 1]
          && corner <= orders.two[0]
          && corner <= orders.two[size - 1];
    }

    /** Whether some way to turn needs less ground than all before: the first least one is noted. */
    private boolean comesLower(Telling telling) {
      boolean lower = false;
      int turned = 0;
      for (int step = 0; step < 1 << MOST_SEARCHED; step++) {
        trial.take(blocks, turned);
        telling.lay(trial);
        int area = trial.area();
        if (area < found.ground) {
          found.ground = area;
          found.turned = turned;
          lower = true;
        }
        turned = nextTurned(turned);
        if (turned == 0) {
          break;
        }
      }
      return lower;
    }

    private void searchTrees() {
      long rows = factorial(size);
      orders.begin(size);
      for (long i = 0L; i < rows && !isDone(); i++) {
        for (int form = 0; form < 1 << 2 * size; form++) {
          if (kin.grow(orders.one, size, form) && comesLower(kin)) {
            found.root = kin.root;
            found.a = pack(kin.left, 0, size);
            found.b = pack(kin.right, 0, size);
          }
        }
        nextOrder(orders.one);
      }
    }

    /** The outlines tell the first row of least ground, and only for that one turns are tried. */
    private void searchCuts() {
      row.length = 2 * size - 1;
      extend(0, 0, 0);
      row.read(found.a, found.b, size);
      found.ground = BOUNDLESS;
      comesLower(row);
    }

    /** All normal rows that begin with the first tokens, as rows of tokens rise. */
    private void extend(int at, int used, int parts) {
      if (at >= row.length) {
        tryRow();
        return;
      }
      int behind = row.length - 1 - at;
      for (int b = 0; b < size && parts <= behind; b++) {
        if (bitOf(used, b) == 0) {
          row.tokens[at] = b;
          extend(at + 1, used | 1 << b, parts + 1);
        }
      }
      for (int joint = BESIDE; joint <= ABOVE && parts > 1; joint++) {
        if (row.tokens[at - 1] != joint) {
          row.tokens[at] = joint;
          extend(at + 1, used, parts - 1);
        }
      }
    }

    private void tryRow() {
      if (isDone()) {
        return;
      }
      outline.draw(row, blocks, turnable, 0);
      int area = outline.leastArea();
      if (area < found.ground) {
        found.ground = area;
        found.a = pack(row.tokens, 0, row.length);
        found.b = pack(row.tokens, NIBBLES, row.length);
      }
    }

    /** The next greater number made of the turnable bits; 0 behind the last one. */
    private int nextTurned(int turned) {
      return turned - turnable & turnable;
    }

    /** The next order as rows of numbers rise; behind the last one the first again. */
    private void nextOrder(int[] order) {
      int tail = size - 1;
      while (tail > 0 && order[tail - 1] > order[tail]) {
        tail--;
      }
      if (tail > 0) {
        int other = size - 1;
        while (other > tail && order[other] < order[tail - 1]) {
          other--;
        }
        exchange(order, tail - 1, other);
      }
      int last = size - 1;
      for (int i = tail; i < last; i++) {
        exchange(order, i, last);
        last--;
      }
    }
  }
}
