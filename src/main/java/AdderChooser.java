/**
 * Plans of adders, made into nets of gates, weighed by gates and by time.
 *
 * <p>BLOCKS are one long everywhere in this file (see {@link Blocks}), so that
 * two of them are alike just where the longs are equal. All rows are made in
 * constructors and used again: a call makes no object at all.
 */
public final class AdderChooser {
  public static final int BAD = -1, NOT = -2, FULL = -3, LONG = -7;
  public static final long VOID = Long.MIN_VALUE;

  private static final int NOTHING_THERE = -11, OTHER_SORT = -12, OUTSIDE = -13, BELOW_ZERO = -14;
  private static final int FAULTS = -100;
  private static final int MOST_WIDTH = 12, MOST_BLOCKS = 8, MOST_PLANS = 12;
  private static final int SHELVES = 4, MOST_DELAY = 9, LAST_ARRIVAL = 99, LAST_TIME = 999;
  private static final int SWEPT_WIDTH = 4, CHOSEN_WIDTH = 6, CHOSEN_PART = 3;
  private static final int RIPPLE = 0, SKIP = 1, SELECT = 2, AHEAD = 3;
  private static final int NOT_GATE = 0, AND_GATE = 1, OR_GATE = 2, XOR_GATE = 3;

  private final Tape tape;
  private final Plans plans;
  private final Known memory;
  private final Net net;
  private final Timing timing;
  private final Sweep sweep;
  private final Search search;
  private final Shelf[] shelves;
  private final long[] live;

  public AdderChooser() {
    tape = new Tape();
    plans = new Plans();
    memory = new Known();
    net = new Net();
    timing = new Timing();
    sweep = new Sweep();
    search = new Search();
    shelves = new Shelf[SHELVES];
    for (int i = 0; i < SHELVES; i++) {
      shelves[i] = new Shelf();
    }
    live = new long[MOST_WIDTH + 1];
  }

  // ---- the tape and the plans ----

  public int feed(int letter) {
    if (letter < 32 || letter > 126) {
      return BAD;
    }
    return tape.append(letter) ? tape.length : FULL;
  }

  public int read() {
    int fault = tape.parse();
    int name = tape.nameCode(tape.letters());
    tape.length = 0;
    if (fault >= 0) {
      return FAULTS - fault;
    }
    return plans.tell(name, tape.told);
  }

  public int find() {
    int name = tape.takeName();
    return name == 0 ? NOT : plans.numberOf(name);
  }

  public int forget(int plan) {
    if (!plans.has(plan)) {
      return BAD;
    }
    plans.remove(plan);
    return plans.amount;
  }

  public int plan(int plan, int what) {
    if (!plans.has(plan) || what < -2) {
      return BAD;
    }
    long blocks = plans.blocks[plan];
    if (what == -1) {
      return Blocks.width(blocks);
    }
    if (what == -2) {
      return Blocks.amount(blocks);
    }
    return Blocks.figureOf(blocks, what);
  }

  public int name(int plan, int i) {
    if (!plans.has(plan) || i < -1) {
      return BAD;
    }
    int length = plans.nameLength(plan);
    if (i == -1) {
      return length;
    }
    return i < length ? plans.names[plan] >> 8 * i & 255 : NOT;
  }

  // ---- delays and arrivals ----

  public int delay(int gate, int v) {
    if (gate < NOT_GATE || gate > XOR_GATE || v < 0 || v > MOST_DELAY) {
      return BAD;
    }
    int old = timing.delays[gate];
    timing.delays[gate] = v;
    timesHaveChanged();
    return old;
  }

  public int arrival(int side, int place, int v) {
    if (!isInput(side, place) || v < 0 || v > LAST_ARRIVAL) {
      return BAD;
    }
    int input = side * MOST_WIDTH + place;
    int old = timing.arrivals[input];
    timing.arrivals[input] = v;
    timesHaveChanged();
    return old;
  }

  public int arrives(int side, int place) {
    return isInput(side, place) ? timing.arrivals[side * MOST_WIDTH + place] : BAD;
  }

  // ---- what a net has, and when ----

  public int gates(int plan, int gate) {
    if (!plans.has(plan) || gate < -1 || gate > XOR_GATE) {
      return BAD;
    }
    memory.ask(plans.blocks[plan]);
    buildNetOf(plan);
    net.markUsed();
    return net.usedGates(gate);
  }

  public int latest(int plan, int outcome) {
    if (!hasOutcome(plan, outcome)) {
      return BAD;
    }
    memory.ask(plans.blocks[plan]);
    buildNetOf(plan);
    timing.come(net);
    return timing.ofOutcome(net, outcome);
  }

  public int deep(int plan) {
    if (!plans.has(plan)) {
      return BAD;
    }
    memory.ask(plans.blocks[plan]);
    buildNetOf(plan);
    timing.come(net);
    return timing.deepest(net);
  }

  public int hangs(int plan) {
    if (!plans.has(plan)) {
      return BAD;
    }
    buildNetOf(plan);
    timing.come(net);
    timing.markHanging(net);
    return timing.hangingInputs();
  }

  public int times(int plan) {
    if (!plans.has(plan)) {
      return BAD;
    }
    buildNetOf(plan);
    timing.come(net);
    return timing.unlikeTimes(net);
  }

  // ---- what a net answers, and when it settles ----

  public int adds(int plan, int a, int b, int c) {
    if (!plans.has(plan) || !areNumbers(a, b, c, Blocks.width(plans.blocks[plan]))) {
      return BAD;
    }
    buildNetOf(plan);
    timing.settle(net, a, b, c);
    return timing.outcomeBits(net);
  }

  public int settles(int plan, int outcome, int a, int b, int c) {
    if (!hasOutcome(plan, outcome) || !areNumbers(a, b, c, Blocks.width(plans.blocks[plan]))) {
      return BAD;
    }
    buildNetOf(plan);
    timing.settle(net, a, b, c);
    return timing.ofOutcome(net, outcome);
  }

  public int slowest(int plan, int what) {
    if (!plans.has(plan) || what < 0 || what > 3) {
      return BAD;
    }
    long blocks = plans.blocks[plan];
    if (Blocks.width(blocks) > SWEPT_WIDTH) {
      return LONG;
    }
    sweep.over(net, timing, blocks);
    return sweep.worst(what);
  }

  public int intime(int plan, int t) {
    if (!plans.has(plan) || t < 0 || t > LAST_TIME) {
      return BAD;
    }
    long blocks = plans.blocks[plan];
    if (Blocks.width(blocks) > SWEPT_WIDTH) {
      return LONG;
    }
    sweep.over(net, timing, blocks);
    return sweep.settledBy(t);
  }

  // ---- plans beside one another ----

  public int shared(int plan, int other) {
    if (!plans.has(plan) || !plans.has(other)) {
      return BAD;
    }
    return net.gatesOfBoth(plans.blocks[plan], plans.blocks[other]);
  }

  public int alike(int plan, int other) {
    if (!plans.has(plan) || !plans.has(other)) {
      return BAD;
    }
    long one = plans.blocks[plan];
    long two = plans.blocks[other];
    if (one == two) {
      return 2;
    }
    return Blocks.width(one) == Blocks.width(two) ? 1 : 0;
  }

  public int known(int plan) {
    if (!plans.has(plan)) {
      return BAD;
    }
    return memory.holds(plans.blocks[plan]) ? 1 : 0;
  }

  // ---- the plan with the fewest gates ----

  public int choose(int w, int kinds, int t, int what) {
    if (!canChoose(w, kinds, t) || what < 0 || what > 2 && what < 10) {
      return BAD;
    }
    search.run(net, timing, w, kinds, t);
    if (what == 2) {
      return search.inTime;
    }
    if (search.inTime == 0) {
      return NOT;
    }
    if (what == 0) {
      return search.fewest;
    }
    return what == 1 ? search.when : Blocks.figureOf(search.best, what - 10);
  }

  public int chosen(int w, int kinds, int t) {
    if (!canChoose(w, kinds, t)) {
      return BAD;
    }
    int name = tape.takeName();
    if (name == 0) {
      return FAULTS;
    }
    search.run(net, timing, w, kinds, t);
    return search.inTime == 0 ? NOT : plans.tell(name, search.best);
  }

  // ---- carries ----

  public int longest(int a, int b, int c, int w, int what) {
    if (w < 1 || w > MOST_WIDTH || !areNumbers(a, b, c, w) || what < 0 || what > 1) {
      return BAD;
    }
    // -1: no run goes on; a run counts from its beginning, so that the lowest of equals stays.
    int length = c - 1;
    int begun = 0;
    int best = length;
    int bestBegun = 0;
    for (int i = 0; i < w; i++) {
      int ones = (a >> i & 1) + (b >> i & 1);
      if (ones == 2) {
        length = 0;
        begun = i;
      } else if (ones == 0) {
        length = -1;
      } else if (length >= 0) {
        length++;
      }
      if (length > best) {
        best = length;
        bestBegun = begun;
      }
    }
    if (what == 0) {
      return Math.max(best, 0);
    }
    return best < 0 ? NOT : bestBegun;
  }

  public long runs(int w, int n) {
    if (w < 1 || w > MOST_WIDTH || n < 0 || n > MOST_WIDTH) {
      return VOID;
    }
    // idle: pairs in which no run goes on at this bit; live[k]: in which one of length k does.
    long idle = 1;
    for (int k = 0; k <= n; k++) {
      live[k] = 0;
    }
    for (int bit = 0; bit < w; bit++) {
      long all = idle;
      for (int k = 0; k <= n; k++) {
        all += live[k];
      }
      for (int k = n; k > 0; k--) {
        live[k] = 2 * live[k - 1];
      }
      live[0] = all;
      idle = all + 2 * idle;
    }
    long fitting = idle;
    for (int k = 0; k <= n; k++) {
      fitting += live[k];
    }
    return fitting;
  }

  // ---- shelves ----

  public int shelve(int shelf, int plan) {
    if (!isShelf(shelf) || plan != -1 && !plans.has(plan)) {
      return BAD;
    }
    if (plan == -1) {
      shelves[shelf].sort = Shelf.EMPTY;
    } else {
      shelves[shelf].holdBlocks(plans.blocks[plan]);
    }
    return 1;
  }

  public int taken(int shelf, int what) {
    if (!isShelf(shelf) || what < 0 || what > 2) {
      return BAD;
    }
    Shelf from = shelves[shelf];
    if (from.sort != Shelf.BLOCKS) {
      return from.sort == Shelf.EMPTY ? NOTHING_THERE : OTHER_SORT;
    }
    if (what == 0) {
      return Blocks.width(from.blocks);
    }
    if (what == 1) {
      return memory.holds(from.blocks) ? 1 : 0;
    }
    return plans.amountWith(from.blocks);
  }

  public int row(int shelf, int sort, int n) {
    if (!isShelf(shelf) || sort < Shelf.LONGS || sort > Shelf.BYTES || n > Shelf.MOST_ITEMS) {
      return BAD;
    }
    if (n < 0) {
      return BELOW_ZERO;
    }
    shelves[shelf].holdRow(sort, n);
    return 1;
  }

  public int put(int shelf, int i, long v) {
    if (!isShelf(shelf)) {
      return BAD;
    }
    Shelf to = shelves[shelf];
    if (!to.isRow()) {
      return to.sort == Shelf.EMPTY ? NOTHING_THERE : OTHER_SORT;
    }
    if (i < 0 || i >= to.size) {
      return OUTSIDE;
    }
    to.items[i] = to.sort == Shelf.BYTES ? (byte) v : v;
    return 1;
  }

  public long get(int shelf, int i) {
    if (!isShelf(shelf)) {
      return VOID;
    }
    Shelf from = shelves[shelf];
    return from.isRow() && i >= 0 && i < from.size ? from.items[i] : VOID;
  }

  public int into(int shelf, int plan) {
    if (!isShelf(shelf) || !plans.has(plan)) {
      return BAD;
    }
    Shelf to = shelves[shelf];
    if (to.sort != Shelf.LONGS) {
      return to.sort == Shelf.EMPTY ? NOTHING_THERE : OTHER_SORT;
    }
    buildNetOf(plan);
    timing.come(net);
    int many = Math.min(to.size, net.width + 1);
    for (int i = 0; i < many; i++) {
      to.items[i] = timing.ofOutcome(net, i);
    }
    return many;
  }

  public int from(int shelf, int side) {
    if (!isShelf(shelf) || side < 0 || side > 1) {
      return BAD;
    }
    Shelf from = shelves[shelf];
    if (from.sort != Shelf.BYTES) {
      return from.sort == Shelf.EMPTY ? NOTHING_THERE : OTHER_SORT;
    }
    int many = from.leadingArrivals();
    for (int i = 0; i < many; i++) {
      timing.arrivals[side * MOST_WIDTH + i] = (int) from.items[i];
    }
    if (many > 0) {
      timesHaveChanged();
    }
    return many;
  }

  public int count(int what) {
    switch (what) {
      case 0:
        return plans.amount;
      case 1:
        return memory.size;
      case 2:
        return tape.length;
      case 3:
        return filledShelves();
      case 4:
        return plans.amountOfBlocks();
      case 5:
        return plans.unlikeBlocks();
      default:
        return BAD;
    }
  }

  // ---- what the calls have in common ----

  private void timesHaveChanged() {
    memory.size = 0;
    sweep.done = false;
    search.done = false;
  }

  private void buildNetOf(int plan) {
    net.clear();
    net.build(plans.blocks[plan]);
  }

  private boolean hasOutcome(int plan, int outcome) {
    return plans.has(plan) && outcome >= -1 && outcome <= Blocks.width(plans.blocks[plan]);
  }

  private int filledShelves() {
    int filled = 0;
    for (int i = 0; i < SHELVES; i++) {
      if (shelves[i].sort != Shelf.EMPTY) {
        filled++;
      }
    }
    return filled;
  }

  private static boolean isInput(int side, int place) {
    if (side == 2) {
      return place == 0;
    }
    return side >= 0 && side < 2 && place >= 0 && place < MOST_WIDTH;
  }

  private static boolean areNumbers(int a, int b, int c, int width) {
    int above = 1 << width;
    return a >= 0 && a < above && b >= 0 && b < above && c >= 0 && c <= 1;
  }

  private static boolean canChoose(int w, int kinds, int t) {
    return w >= 1 && w <= CHOSEN_WIDTH && kinds >= 1 && kinds <= 15
        && Integer.bitCount(kinds) <= 2 && t >= 0 && t <= LAST_TIME;
  }

  private static boolean isShelf(int shelf) {
    return shelf >= 0 && shelf < SHELVES;
  }

  /**
   * BLOCKS as one long: six bits for each block, the lowest block in the lowest
   * six, in each of them 8 * KIND and WIDTH. No block is 0, as no WIDTH is.
   */
  private static final class Blocks {
    private static final int BITS = 6;

    static int amount(long blocks) {
      int amount = 0;
      while (amount < MOST_BLOCKS && codeAt(blocks, amount) != 0) {
        amount++;
      }
      return amount;
    }

    static int width(long blocks) {
      int width = 0;
      for (int i = 0; i < MOST_BLOCKS; i++) {
        width += widthAt(blocks, i);
      }
      return width;
    }

    static int codeAt(long blocks, int i) {
      return (int) (blocks >>> BITS * i) & 63;
    }

    static int kindAt(long blocks, int i) {
      return codeAt(blocks, i) >> 3;
    }

    static int widthAt(long blocks, int i) {
      return codeAt(blocks, i) & 7;
    }

    /** 10 * KIND and WIDTH of block i, 0 and more; NOT where there is none. */
    static int figureOf(long blocks, int i) {
      if (i >= MOST_BLOCKS || codeAt(blocks, i) == 0) {
        return NOT;
      }
      return 10 * kindAt(blocks, i) + widthAt(blocks, i);
    }

    /** These blocks, of which there are amount, with one more above them. */
    static long with(long blocks, int amount, int kind, int width) {
      return blocks | (long) (kind << 3 | width) << BITS * amount;
    }
  }

  /** The tape, and what can be read from it. */
  private static final class Tape {
    private static final int MOST = 40, MOST_LETTERS = 4;

    final int[] bytes = new int[MOST];
    int length;
    /** The blocks of the text that was parsed last, if it had no fault. */
    long told;

    boolean append(int letter) {
      if (length >= MOST) {
        return false;
      }
      bytes[length] = letter;
      length++;
      return true;
    }

    /** With how many letters the tape begins, as far as a name can go. */
    int letters() {
      int letters = 0;
      while (letters < length && letters < MOST_LETTERS && isLetter(bytes[letters])) {
        letters++;
      }
      return letters;
    }

    /** The first letters of the tape as one number, the first of them in its lowest eight bits. */
    int nameCode(int letters) {
      int code = 0;
      for (int i = 0; i < letters; i++) {
        code |= bytes[i] << 8 * i;
      }
      return code;
    }

    /** The name that the tape is, 0 where it is none; the tape is empty then. */
    int takeName() {
      int letters = letters();
      int code = letters == length ? nameCode(letters) : 0;
      length = 0;
      return code;
    }

    /** The fault of the text on the tape; -1, and its blocks are told, if it has none. */
    int parse() {
      int at = letters();
      if (at == 0 || at >= length || bytes[at] != '=') {
        return at;
      }
      at++;
      long blocks = 0;
      int amount = 0;
      int width = 0;
      while (at < length) {
        int kind = kindOf(bytes[at]);
        if (kind < 0 || amount == MOST_BLOCKS || width == MOST_WIDTH) {
          return at;
        }
        at++;
        int figure = at < length ? bytes[at] - '0' : 0;
        if (figure < 1 || figure > 6 || width + figure > MOST_WIDTH) {
          return at;
        }
        at++;
        blocks = Blocks.with(blocks, amount, kind, figure);
        amount++;
        width += figure;
      }
      told = blocks;
      return amount == 0 ? at : -1;
    }

    private static boolean isLetter(int letter) {
      return letter >= 'a' && letter <= 'z';
    }

    private static int kindOf(int letter) {
      switch (letter) {
        case 'r':
          return RIPPLE;
        case 's':
          return SKIP;
        case 'c':
          return SELECT;
        case 'l':
          return AHEAD;
        default:
          return -1;
      }
    }
  }

  /** The plans by number: their names (see {@link Tape#nameCode}) and their blocks. */
  private static final class Plans {
    final int[] names = new int[MOST_PLANS];
    final long[] blocks = new long[MOST_PLANS];
    int amount;

    boolean has(int plan) {
      return plan >= 0 && plan < amount;
    }

    int numberOf(int name) {
      for (int i = 0; i < amount; i++) {
        if (names[i] == name) {
          return i;
        }
      }
      return NOT;
    }

    /** The number of the plan with this name, which has these blocks now; FULL. */
    int tell(int name, long itsBlocks) {
      int plan = numberOf(name);
      if (plan < 0) {
        if (amount >= MOST_PLANS) {
          return FULL;
        }
        plan = amount;
        names[plan] = name;
        amount++;
      }
      blocks[plan] = itsBlocks;
      return plan;
    }

    void remove(int plan) {
      amount--;
      for (int i = plan; i < amount; i++) {
        names[i] = names[i + 1];
        blocks[i] = blocks[i + 1];
      }
    }

    int nameLength(int plan) {
      int length = 0;
      while (length < Tape.MOST_LETTERS && (names[plan] >> 8 * length & 255) != 0) {
        length++;
      }
      return length;
    }

    int amountWith(long wanted) {
      int with = 0;
      for (int i = 0; i < amount; i++) {
        if (blocks[i] == wanted) {
          with++;
        }
      }
      return with;
    }

    int amountOfBlocks() {
      int all = 0;
      for (int i = 0; i < amount; i++) {
        all += Blocks.amount(blocks[i]);
      }
      return all;
    }

    int unlikeBlocks() {
      // A block's code is below 32, so that each of them has a bit of its own.
      long seen = 0;
      for (int i = 0; i < amount; i++) {
        int amountHere = Blocks.amount(blocks[i]);
        for (int k = 0; k < amountHere; k++) {
          seen |= 1L << Blocks.codeAt(blocks[i], k);
        }
      }
      return Long.bitCount(seen);
    }
  }

  /** The blocks that were asked last, the latest of them behind all others. */
  private static final class Known {
    private static final int MOST = 20;

    final long[] asked = new long[MOST];
    int size;

    boolean holds(long blocks) {
      return placeOf(blocks) < size;
    }

    void ask(long blocks) {
      int place = placeOf(blocks);
      if (place == size && size < MOST) {
        size++;
      } else if (place == size) {
        place = 0;
      }
      for (int i = place; i < size - 1; i++) {
        asked[i] = asked[i + 1];
      }
      asked[size - 1] = blocks;
    }

    /** Where these blocks stand; the size, if they don't. */
    private int placeOf(long blocks) {
      int place = 0;
      while (place < size && asked[place] != blocks) {
        place++;
      }
      return place;
    }
  }

  /** A shelf: nothing, blocks, or a row; the bytes of a row stand in longs too. */
  private static final class Shelf {
    static final int EMPTY = -1, LONGS = 0, BYTES = 1, BLOCKS = 2;
    static final int MOST_ITEMS = 20;

    final long[] items = new long[MOST_ITEMS];
    int sort = EMPTY;
    int size;
    long blocks;

    void holdBlocks(long itsBlocks) {
      sort = BLOCKS;
      blocks = itsBlocks;
    }

    void holdRow(int sortOf, int n) {
      sort = sortOf;
      size = n;
      for (int i = 0; i < n; i++) {
        items[i] = 0;
      }
    }

    boolean isRow() {
      return sort == LONGS || sort == BYTES;
    }

    /** How many items there are ahead of the first that is no arrival, as many as a side has at most. */
    int leadingArrivals() {
      int most = Math.min(size, MOST_WIDTH);
      int many = 0;
      while (many < most && items[many] >= 0 && items[many] <= LAST_ARRIVAL) {
        many++;
      }
      return many;
    }
  }

  /**
   * A net of gates. A gate has a number above the numbers of those of which it
   * is made; a NOT has the one of which it is made twice.
   */
  private static final class Net {
    static final int ZERO = 0, ONE = 1, SIDE_A = 2, SIDE_B = SIDE_A + MOST_WIDTH;
    static final int CARRY = SIDE_B + MOST_WIDTH, FIRST = CARRY + 1;
    /** Far above what two plans of the greatest width need: some 160 gates each. */
    static final int MOST = 512;

    private static final int MOST_BITS = 6;

    final int[] sort = new int[MOST];
    final int[] lower = new int[MOST];
    final int[] upper = new int[MOST];
    final boolean[] used = new boolean[MOST];
    final int[] sums = new int[MOST_WIDTH];
    int size;
    int width;
    int carry;

    // The newest gate of which this one is the upper part, and the one made of it before that; 0: none.
    private final int[] newest = new int[MOST];
    private final int[] before = new int[MOST];
    private final boolean[] usedByFirst = new boolean[MOST];
    /** Of each bit the gates p(i) and g(i). */
    private final int[] onlyOne = new int[MOST_WIDTH];
    private final int[] bothOf = new int[MOST_WIDTH];
    private final int[] sumsByZero = new int[MOST_WIDTH];
    private final int[] sumsByOne = new int[MOST_WIDTH];

    /** No gates but the inputs, no blocks. */
    void clear() {
      for (int gate = 0; gate < FIRST; gate++) {
        newest[gate] = 0;
      }
      size = FIRST;
      width = 0;
      carry = CARRY;
    }

    /** Back to what was there before some blocks were laid upon it. */
    void cutBack(int oldSize, int oldWidth, int oldCarry) {
      for (int gate = size - 1; gate >= oldSize; gate--) {
        newest[upper[gate]] = before[gate];
      }
      size = oldSize;
      width = oldWidth;
      carry = oldCarry;
    }

    /** Lays these blocks from bit 0 on; the gates that are there already serve them, too. */
    void build(long blocks) {
      width = 0;
      carry = CARRY;
      int amount = Blocks.amount(blocks);
      for (int i = 0; i < amount; i++) {
        lay(Blocks.kindAt(blocks, i), Blocks.widthAt(blocks, i));
      }
    }

    /** Lays a block upon those that are there. */
    void lay(int kind, int bits) {
      int low = width;
      int high = width + bits - 1;
      if (bits < 1 || bits > MOST_BITS || high >= MOST_WIDTH) {
        return;
      }
      for (int i = low; i <= high; i++) {
        onlyOne[i] = xor(SIDE_A + i, SIDE_B + i);
        bothOf[i] = and(SIDE_A + i, SIDE_B + i);
      }
      switch (kind) {
        case SKIP:
          carry = laySkip(low, high);
          break;
        case SELECT:
          carry = laySelect(low, high);
          break;
        case AHEAD:
          carry = layAhead(low, high);
          break;
        default:
          carry = ripple(low, high, carry, sums);
          break;
      }
      width = high + 1;
    }

    /** The gate of an outcome: a sum, or at the width what comes out of the highest block. */
    int outcomeGate(int outcome) {
      return outcome < width ? sums[outcome] : carry;
    }

    void markUsed() {
      for (int gate = 0; gate < size; gate++) {
        used[gate] = false;
      }
      for (int i = 0; i <= width; i++) {
        used[outcomeGate(i)] = true;
      }
      for (int gate = size - 1; gate >= FIRST; gate--) {
        if (used[gate]) {
          used[lower[gate]] = true;
          used[upper[gate]] = true;
        }
      }
    }

    /** How many gates of a sort (-1: of any) are marked as used. */
    int usedGates(int wanted) {
      int found = 0;
      for (int gate = FIRST; gate < size; gate++) {
        if (used[gate] && (wanted == -1 || sort[gate] == wanted)) {
          found++;
        }
      }
      return found;
    }

    /** How many gates are used by both: both are laid in one net, where each gate is there once. */
    int gatesOfBoth(long one, long two) {
      clear();
      build(one);
      markUsed();
      int sizeOfFirst = size;
      for (int gate = FIRST; gate < sizeOfFirst; gate++) {
        usedByFirst[gate] = used[gate];
      }
      build(two);
      markUsed();
      int both = 0;
      for (int gate = FIRST; gate < sizeOfFirst; gate++) {
        if (used[gate] && usedByFirst[gate]) {
          both++;
        }
      }
      return both;
    }

    /** What comes out of bits low to high into which c comes; their sums go into a row. */
    private int ripple(int low, int high, int c, int[] into) {
      int comesOut = c;
      for (int i = low; i <= high; i++) {
        into[i] = xor(onlyOne[i], comesOut);
        comesOut = or(bothOf[i], and(onlyOne[i], comesOut));
      }
      return comesOut;
    }

    private int laySkip(int low, int high) {
      int c = carry;
      int rippled = ripple(low, high, c, sums);
      int all = onlyOne[low];
      for (int i = low + 1; i <= high; i++) {
        all = and(all, onlyOne[i]);
      }
      return or(rippled, and(all, c));
    }

    private int laySelect(int low, int high) {
      int c = carry;
      int outByZero = ripple(low, high, ZERO, sumsByZero);
      int outByOne = ripple(low, high, ONE, sumsByOne);
      for (int i = low; i <= high; i++) {
        sums[i] = or(and(sumsByOne[i], c), and(sumsByZero[i], not(c)));
      }
      return or(outByZero, and(outByOne, c));
    }

    private int layAhead(int low, int high) {
      int c = carry;
      int comesOut = c;
      for (int i = low; i <= high; i++) {
        sums[i] = xor(onlyOne[i], comesOut);
        comesOut = or(span(this, low, i, true), and(span(this, low, i, false), c));
      }
      return comesOut;
    }

    /**
     * G (makes) or P of bits i to j. They are at most MOST_BITS, as lay sees to
     * it, and each part of them is shorter: four levels at most.
     */
    private static int span(Net net, int i, int j, boolean makes) {
      if (i >= j) {
        return makes ? net.bothOf[i] : net.onlyOne[i];
      }
      int m = (i + j) / 2;
      int passesHigh = span(net, m + 1, j, false);
      if (!makes) {
        return net.and(passesHigh, span(net, i, m, false));
      }
      return net.or(span(net, m + 1, j, true), net.and(passesHigh, span(net, i, m, true)));
    }

    private int not(int x) {
      if (x == ZERO) {
        return ONE;
      }
      return x == ONE ? ZERO : made(NOT_GATE, x, x);
    }

    private int and(int x, int y) {
      if (x == ZERO || y == ZERO) {
        return ZERO;
      }
      if (x == ONE) {
        return y;
      }
      return y == ONE || x == y ? x : made(AND_GATE, x, y);
    }

    private int or(int x, int y) {
      if (x == ONE || y == ONE) {
        return ONE;
      }
      if (x == ZERO) {
        return y;
      }
      return y == ZERO || x == y ? x : made(OR_GATE, x, y);
    }

    private int xor(int x, int y) {
      if (x == y) {
        return ZERO;
      }
      if (x == ZERO) {
        return y;
      }
      if (y == ZERO) {
        return x;
      }
      if (x == ONE) {
        return made(NOT_GATE, y, y);
      }
      return y == ONE ? made(NOT_GATE, x, x) : made(XOR_GATE, x, y);
    }

    /** The gate of this sort, made of x and y: the one that is there, or a new one. */
    private int made(int sortOf, int x, int y) {
      int low = x < y ? x : y;
      int high = x < y ? y : x;
      if (sortOf == NOT_GATE && high >= FIRST && sort[high] == NOT_GATE) {
        return lower[high];
      }
      int gate = newest[high];
      for (int steps = 0; gate >= FIRST && steps < MOST; steps++) {
        if (lower[gate] == low && sort[gate] == sortOf) {
          return gate;
        }
        gate = before[gate];
      }
      if (size >= MOST) {
        return ZERO;
      }
      gate = size;
      size++;
      sort[gate] = sortOf;
      lower[gate] = low;
      upper[gate] = high;
      newest[gate] = 0;
      before[gate] = newest[high];
      newest[high] = gate;
      return gate;
    }
  }

  /** Delays and arrivals, and when by them each gate of a net comes or settles. */
  private static final class Timing {
    private static final int INPUTS = 2 * MOST_WIDTH + 1;

    final int[] delays = {1, 2, 2, 3};
    /** By side and place: A, B, CARRY, in the order of the inputs of a net. */
    final int[] arrivals = new int[INPUTS];

    private final int[] when = new int[Net.MOST];
    private final int[] value = new int[Net.MOST];
    private final boolean[] hanging = new boolean[Net.MOST];
    private final int[] depth = new int[Net.MOST];

    void come(Net net) {
      inputsArrive();
      for (int gate = Net.FIRST; gate < net.size; gate++) {
        when[gate] = laterPart(net, gate) + delays[net.sort[gate]];
      }
    }

    void settle(Net net, int a, int b, int c) {
      inputsArrive();
      value[Net.ZERO] = 0;
      value[Net.ONE] = 1;
      value[Net.CARRY] = c;
      for (int i = 0; i < net.width; i++) {
        value[Net.SIDE_A + i] = a >> i & 1;
        value[Net.SIDE_B + i] = b >> i & 1;
      }
      for (int gate = Net.FIRST; gate < net.size; gate++) {
        value[gate] = valueOf(net, gate);
        int parts = isRuled(net.sort[gate], value[gate]) ? rulingPart(net, gate) : laterPart(net, gate);
        when[gate] = parts + delays[net.sort[gate]];
      }
    }

    /** When an outcome is there, by what was reckoned last; of -1 the latest one. */
    int ofOutcome(Net net, int outcome) {
      return outcome < 0 ? lastOutcome(net) : when[net.outcomeGate(outcome)];
    }

    int outcomeBits(Net net) {
      int bits = 0;
      for (int i = 0; i <= net.width; i++) {
        bits |= value[net.outcomeGate(i)] << i;
      }
      return bits;
    }

    int unlikeTimes(Net net) {
      int unlike = 0;
      for (int i = 0; i <= net.width; i++) {
        int before = 0;
        while (before < i && ofOutcome(net, before) != ofOutcome(net, i)) {
          before++;
        }
        if (before == i) {
          unlike++;
        }
      }
      return unlike;
    }

    /** Marks all on which the latest outcome hangs, by when all come. */
    void markHanging(Net net) {
      for (int gate = 0; gate < net.size; gate++) {
        hanging[gate] = false;
      }
      int last = lastOutcome(net);
      for (int i = 0; i <= net.width; i++) {
        if (ofOutcome(net, i) == last) {
          hanging[net.outcomeGate(i)] = true;
        }
      }
      for (int gate = net.size - 1; gate >= Net.FIRST; gate--) {
        if (hanging[gate] && isHeldUpBy(net, gate, net.lower[gate])) {
          hanging[net.lower[gate]] = true;
        }
        if (hanging[gate] && isHeldUpBy(net, gate, net.upper[gate])) {
          hanging[net.upper[gate]] = true;
        }
      }
    }

    int hangingInputs() {
      int bits = 0;
      for (int i = 0; i < INPUTS; i++) {
        if (hanging[Net.SIDE_A + i]) {
          bits |= 1 << i;
        }
      }
      return bits;
    }

    /** The most gates, each held up by the next, from one of the latest outcomes down. */
    int deepest(Net net) {
      for (int gate = 0; gate < Net.FIRST; gate++) {
        depth[gate] = 0;
      }
      for (int gate = Net.FIRST; gate < net.size; gate++) {
        depth[gate] = 1 + Math.max(depthBelow(net, gate, net.lower[gate]), depthBelow(net, gate, net.upper[gate]));
      }
      int last = lastOutcome(net);
      int deepest = 0;
      for (int i = 0; i <= net.width; i++) {
        if (ofOutcome(net, i) == last) {
          deepest = Math.max(deepest, depth[net.outcomeGate(i)]);
        }
      }
      return deepest;
    }

    private void inputsArrive() {
      when[Net.ZERO] = 0;
      when[Net.ONE] = 0;
      for (int i = 0; i < INPUTS; i++) {
        when[Net.SIDE_A + i] = arrivals[i];
      }
    }

    private int lastOutcome(Net net) {
      int last = 0;
      for (int i = 0; i <= net.width; i++) {
        last = Math.max(last, when[net.outcomeGate(i)]);
      }
      return last;
    }

    private int laterPart(Net net, int gate) {
      return Math.max(when[net.lower[gate]], when[net.upper[gate]]);
    }

    /** Whether one part with this value is enough for a gate of this sort to have it. */
    private static boolean isRuled(int sort, int v) {
      return sort == AND_GATE && v == 0 || sort == OR_GATE && v == 1;
    }

    /** The earliest part that has the gate's own value, if one at least has it. */
    private int rulingPart(Net net, int gate) {
      int low = net.lower[gate];
      int high = net.upper[gate];
      if (value[low] != value[gate]) {
        return when[high];
      }
      return value[high] == value[gate] ? Math.min(when[low], when[high]) : when[low];
    }

    private int valueOf(Net net, int gate) {
      int x = value[net.lower[gate]];
      int y = value[net.upper[gate]];
      switch (net.sort[gate]) {
        case AND_GATE:
          return x & y;
        case OR_GATE:
          return x | y;
        case XOR_GATE:
          return x ^ y;
        default:
          return 1 - x;
      }
    }

    /** Whether a part of a gate comes just that gate's delay ahead of it. */
    private boolean isHeldUpBy(Net net, int gate, int part) {
      return when[part] == when[gate] - delays[net.sort[gate]];
    }

    private int depthBelow(Net net, int gate, int part) {
      return isHeldUpBy(net, gate, part) ? depth[part] : 0;
    }
  }

  /** When a plan settles for each a, b, c, kept until another plan or other times are asked. */
  private static final class Sweep {
    private static final int ALL = 1 << 2 * SWEPT_WIDTH + 1;

    boolean done;

    /** By c, then b, then a: as they are named where several are the latest. */
    private final int[] settled = new int[ALL];
    private long swept;
    private int width;

    /** Blocks of at most SWEPT_WIDTH bits. */
    void over(Net net, Timing timing, long blocks) {
      if (done && swept == blocks) {
        return;
      }
      net.clear();
      net.build(blocks);
      width = Math.min(net.width, SWEPT_WIDTH);
      for (int i = 0; i < amount(); i++) {
        timing.settle(net, numberA(i), numberB(i), i >> 2 * width);
        settled[i] = timing.ofOutcome(net, -1);
      }
      swept = blocks;
      done = true;
    }

    /** The latest time (0), or the a, b, c (1, 2, 3) that first has it. */
    int worst(int what) {
      int worst = 0;
      for (int i = 1; i < amount(); i++) {
        if (settled[i] > settled[worst]) {
          worst = i;
        }
      }
      switch (what) {
        case 1:
          return numberA(worst);
        case 2:
          return numberB(worst);
        case 3:
          return worst >> 2 * width;
        default:
          return settled[worst];
      }
    }

    int settledBy(int t) {
      int many = 0;
      for (int i = 0; i < amount(); i++) {
        if (settled[i] <= t) {
          many++;
        }
      }
      return many;
    }

    private int amount() {
      return 2 << 2 * width;
    }

    private int numberA(int i) {
      return i & (1 << width) - 1;
    }

    private int numberB(int i) {
      return i >> width & (1 << width) - 1;
    }
  }

  /** All blocks of a width and of some kinds, the best of them kept until others are asked. */
  private static final class Search {
    boolean done;
    int inTime;
    int fewest;
    int when;
    long best;

    private int width;
    private int kinds;
    private int limit;

    void run(Net net, Timing timing, int w, int kindsTold, int t) {
      if (done && width == w && kinds == kindsTold && limit == t) {
        return;
      }
      width = w;
      kinds = kindsTold;
      limit = t;
      inTime = 0;
      fewest = 0;
      when = 0;
      best = 0;
      net.clear();
      grow(this, net, timing, 0, 0);
      done = true;
    }

    /**
     * Lays all that can stand above these blocks, in the order of rows. The net
     * holds these blocks before and after. Each level lays a block of one bit
     * at least: CHOSEN_WIDTH levels at most.
     */
    private static void grow(Search search, Net net, Timing timing, long blocks, int amount) {
      if (net.width >= search.width || amount >= CHOSEN_WIDTH) {
        search.weigh(net, timing, blocks);
        return;
      }
      int oldSize = net.size;
      int oldWidth = net.width;
      int oldCarry = net.carry;
      int widest = Math.min(CHOSEN_PART, search.width - oldWidth);
      for (int kind = RIPPLE; kind <= AHEAD; kind++) {
        int most = (search.kinds >> kind & 1) == 1 ? widest : 0;
        for (int bits = 1; bits <= most; bits++) {
          net.lay(kind, bits);
          grow(search, net, timing, Blocks.with(blocks, amount, kind, bits), amount + 1);
          net.cutBack(oldSize, oldWidth, oldCarry);
        }
      }
    }

    private void weigh(Net net, Timing timing, long blocks) {
      timing.come(net);
      int last = timing.ofOutcome(net, -1);
      if (last > limit) {
        return;
      }
      net.markUsed();
      int gates = net.usedGates(-1);
      if (inTime == 0 || gates < fewest) {
        fewest = gates;
        when = last;
        best = blocks;
      }
      inTime++;
    }
  }
}
