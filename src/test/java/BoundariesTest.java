import java.io.IOException;

/** The boundaries of each promise, under its own words; all answers are worked out by hand. */
public final class BoundariesTest {
  private static final int MIN = Integer.MIN_VALUE, MAX = Integer.MAX_VALUE;
  private static final Check CHECK = new Check();

  private static void due(String call, long got, long want) {
    CHECK.due(call, got, want);
  }

  private static void says(String words) throws IOException {
    CHECK.says(words);
  }

  public static void main(String[] args) throws IOException {
    newObject();
    feed();
    read();
    find();
    forget();
    plan();
    name();
    delay();
    arrival();
    arrives();
    gates();
    latest();
    deep();
    hangs();
    times();
    adds();
    settles();
    slowest();
    slowestOfSeveral();
    intime();
    shared();
    alike();
    known();
    chooseNumbers();
    chooseTimes();
    chooseBlocks();
    chooseAgain();
    leftBehind();
    chosen();
    chosenRefused();
    longest();
    runs();
    shelve();
    taken();
    row();
    put();
    get();
    into();
    from();
    countNone();
    countFull();
    CHECK.end();
  }

  private static void newObject() throws IOException {
    says("`AdderChooser()`: No PLANS.");
    AdderChooser x = new AdderChooser();
    for (int plan : new int[] {0, -1, 1, 11, MIN, MAX}) {
      due("forget " + plan, x.forget(plan), -1);
      due("plan " + plan, x.plan(plan, -1), -1);
      due("name " + plan, x.name(plan, -1), -1);
      due("gates " + plan, x.gates(plan, -1), -1);
      due("latest " + plan, x.latest(plan, -1), -1);
      due("deep " + plan, x.deep(plan), -1);
      due("hangs " + plan, x.hangs(plan), -1);
      due("times " + plan, x.times(plan), -1);
      due("adds " + plan, x.adds(plan, 0, 0, 0), -1);
      due("settles " + plan, x.settles(plan, -1, 0, 0, 0), -1);
      due("slowest " + plan, x.slowest(plan, 0), -1);
      due("intime " + plan, x.intime(plan, 0), -1);
      due("shared " + plan, x.shared(plan, plan), -1);
      due("alike " + plan, x.alike(plan, plan), -1);
      due("known " + plan, x.known(plan), -1);
      due("shelve " + plan, x.shelve(0, plan), plan == -1 ? 1 : -1);
      due("into " + plan, x.into(0, plan), -1);
    }
    due("find", x.find(), -2);
    due("read", x.read(), -100);
    due("chosen", x.chosen(1, 1, 999), -100);
    due("PLANS", x.count(0), 0);
  }

  private static void feed() throws IOException {
    says("A byte comes behind THE TAPE: how many it has. BAD; FULL.");
    AdderChooser x = new AdderChooser();
    due("below 32", x.feed(31), -1);
    due("above 126", x.feed(127), -1);
    due("32", x.feed(32), 1);
    due("126", x.feed(126), 2);
    for (int many = 3; many <= 40; many++) {
      due("as many as " + many, x.feed('a'), many);
    }
    due("FULL", x.feed('a'), -3);
    due("FULL still", x.feed(126), -3);
    due("BAD ahead of FULL", x.feed(127), -1);
    due("40", x.count(2), 40);
    due("emptied", x.find() * 10 + x.count(2), -20);
    due("the first again", x.feed('a'), 1);
  }

  private static void read() throws IOException {
    says("THE TAPE, which is empty then, is a PLAN: its number. -100 less the FAULT; FULL: it would be a 13th.");
    AdderChooser x = new AdderChooser();
    due("an empty TAPE", x.read(), -100);
    for (int i = 0; i < 12; i++) {
      due("the number " + i, Check.read(x, "n" + (char) ('a' + i) + "=c6c6"), i);
      due("THE TAPE " + i, x.count(2), 0);
    }
    due("a 13th", Check.read(x, "n=r1"), -3);
    due("a 13th again", Check.read(x, "n=r1"), -3);
    due("a 13th with a FAULT", Check.read(x, "n=r1r"), -105);
    due("the greatest FAULT", Check.read(x, "abcd=r1r1r1r1r1r1r1r1r1"), -121);
    due("a NAME that is there", Check.read(x, "nb=r1"), 1);
    x.forget(0);
    due("a 12th again", Check.read(x, "n=r1"), 11);
    due("a 13th at last", Check.read(x, "na=r1"), -3);
  }

  private static void find() throws IOException {
    says("THE TAPE, which is empty then, is a NAME: the number of its PLAN. NOT: there is none (nor where it is no NAME).");
    AdderChooser x = Check.with("a=r1", "aa=r1", "aaaa=r1");
    String[] tapes = {"a", "aa", "aaa", "aaaa", "aaaaa", "", "b", "A", " a", "a ", "a=", "a=r1", "a1"};
    int[] found = {0, 1, -2, 2, -2, -2, -2, -2, -2, -2, -2, -2, -2};
    for (int i = 0; i < tapes.length; i++) {
      Check.feed(x, tapes[i]);
      due("'" + tapes[i] + "'", x.find(), found[i]);
      due("'" + tapes[i] + "': THE TAPE", x.count(2), 0);
    }
    Check.feed(x, "a".repeat(40));
    due("40 letters", x.find(), -2);
    says("NOT also where THE TAPE is no NAME");
    due("an empty TAPE", x.find(), -2);
  }

  private static void forget() throws IOException {
    says("A PLAN is gone: how many there are. BAD.");
    AdderChooser x = new AdderChooser();
    for (int i = 0; i < 12; i++) {
      Check.read(x, (char) ('a' + i) + "=r" + (i % 6 + 1));
    }
    for (int none : new int[] {-1, 12, MIN, MAX}) {
      due("none " + none, x.forget(none), -1);
    }
    due("all stay", x.count(0), 12);
    due("the last of 12", x.forget(11), 11);
    due("the last of 12 again", x.forget(11), -1);
    due("the first", x.forget(0), 10);
    due("b is the first", x.name(0, 0), 'b');
    due("k is the last", x.name(9, 0) * 10 + x.plan(9, 0), 'k' * 10 + 5);
    for (int left = 9; left >= 0; left--) {
      due("the first of " + (left + 1), x.forget(0), left);
    }
    due("none is left", x.forget(0), -1);
  }

  private static void plan() throws IOException {
    says("BLOCK (what 0 ..). BAD; NOT: no such BLOCK.");
    AdderChooser x = Check.with("a=l6", "b=s1s1s1s1s1s1s1s5");
    int[] whats = {MIN, -4, -3, -2, -1, 0, 1, 7, 8, 9, 10, 31, 32, 64, MAX};
    int[] one = {-1, -1, -1, 1, 6, 36, -2, -2, -2, -2, -2, -2, -2, -2, -2};
    int[] eight = {-1, -1, -1, 8, 12, 11, 11, 15, -2, -2, -2, -2, -2, -2, -2};
    for (int i = 0; i < whats.length; i++) {
      due("of one BLOCK " + whats[i], x.plan(0, whats[i]), one[i]);
      due("of eight " + whats[i], x.plan(1, whats[i]), eight[i]);
      due("of none " + whats[i], x.plan(2, whats[i]), -1);
    }
    says("plan(): what below -2 is BAD");
    due("-3", x.plan(0, -3), -1);
    due("a PLAN below 0", x.plan(-1, -3), -1);
  }

  private static void name() throws IOException {
    says("Letter i of the NAME of a PLAN (i -1: how many). BAD: plan, i below -1; NOT.");
    AdderChooser x = Check.with("a=r1", "wxyz=r1");
    int[] places = {MIN, -2, -1, 0, 1, 3, 4, 5, 8, 32, MAX};
    int[] one = {-1, -1, 1, 'a', -2, -2, -2, -2, -2, -2, -2};
    int[] four = {-1, -1, 4, 'w', 'x', 'z', -2, -2, -2, -2, -2};
    for (int i = 0; i < places.length; i++) {
      due("of one letter " + places[i], x.name(0, places[i]), one[i]);
      due("of four " + places[i], x.name(1, places[i]), four[i]);
      due("of none " + places[i], x.name(2, places[i]), -1);
      due("of -1 " + places[i], x.name(-1, places[i]), -1);
    }
  }

  private static void delay() throws IOException {
    says("`int delay(int gate, int v)`: A DELAY becomes v: what it was. BAD.");
    AdderChooser x = Check.with("a=r1");
    due("gate -1", x.delay(-1, 0), -1);
    due("gate 4", x.delay(4, 0), -1);
    due("v -1", x.delay(3, -1), -1);
    due("v 10", x.delay(3, 10), -1);
    due("nothing has changed", x.settles(0, 0, 0, 0, 0), 6);
    due("v 9", x.delay(3, 9), 3);
    due("two XORs of 9", x.settles(0, 0, 0, 0, 0), 18);
    due("v 0", x.delay(3, 0), 9);
    due("two XORs of 0", x.settles(0, 0, 0, 0, 0), 0);
    due("as it was", x.delay(3, 0), 0);
  }

  private static void arrival() throws IOException {
    says("`int arrival(int side, int place, int v)`: An ARRIVAL becomes v: what it was. BAD.");
    AdderChooser x = Check.with("a=r6r6");
    int[][] wrong = {{-1, 0, 5}, {3, 0, 5}, {0, -1, 5}, {0, 12, 5}, {1, -1, 5}, {1, 12, 5}, {2, -1, 5}, {2, 1, 5}, {0, 0, -1},
      {0, 0, 100}, {1, 11, -1}, {1, 11, 100}, {2, 0, -1}, {2, 0, 100}, {0, 0, MIN}, {2, 0, MAX}};
    for (int[] w : wrong) {
      due(w[0] + ", " + w[1] + ", " + w[2], x.arrival(w[0], w[1], w[2]), -1);
    }
    due("nothing has changed", x.latest(0, 11), 50);
    due("the last A", x.arrival(0, 11, 99), 0);
    due("the last A is late", x.latest(0, 11), 105);
    due("all others are not", x.latest(0, 10), 46);
    due("the last A again", x.arrival(0, 11, 0), 99);
    due("the last B", x.arrival(1, 11, 98), 0);
    due("the last B is late", x.latest(0, 11), 104);
    due("the CARRY", x.arrival(2, 0, 99), 0);
    due("the CARRY is late", x.latest(0, 0), 102);
  }

  private static void arrives() throws IOException {
    says("`int arrives(int side, int place)`: An ARRIVAL. BAD.");
    AdderChooser x = new AdderChooser();
    x.arrival(0, 11, 99);
    x.arrival(1, 0, 98);
    x.arrival(2, 0, 97);
    due("the last A", x.arrives(0, 11), 99);
    due("the first B", x.arrives(1, 0), 98);
    due("the CARRY", x.arrives(2, 0), 97);
    due("A 12 is no B 0", x.arrives(0, 12), -1);
    due("B 12 is no CARRY", x.arrives(1, 12), -1);
    due("B -1 is no A 11", x.arrives(1, -1), -1);
    due("CARRY -1", x.arrives(2, -1), -1);
    due("CARRY 1", x.arrives(2, 1), -1);
    due("side -1", x.arrives(-1, 0), -1);
    due("side -1, place 12", x.arrives(-1, 12), -1);
    due("side 3", x.arrives(3, 0), -1);
  }

  private static void gates() throws IOException {
    says("How many GATES of a PLAN are USED: of NOT .. XOR (gate 0 .. 3), all of these (-1). BAD.");
    AdderChooser x = Check.with("a=r1", "b=c1");
    int[] gates = {MIN, -3, -2, -1, 0, 1, 2, 3, 4, 5, MAX};
    int[] ripple = {-1, -1, -1, 5, 0, 2, 1, 2, -1, -1, -1};
    int[] select = {-1, -1, -1, 10, 2, 4, 3, 1, -1, -1, -1};
    for (int i = 0; i < gates.length; i++) {
      due("r1, " + gates[i], x.gates(0, gates[i]), ripple[i]);
      due("c1, " + gates[i], x.gates(1, gates[i]), select[i]);
      due("none, " + gates[i], x.gates(2, gates[i]), -1);
      due("below, " + gates[i], x.gates(-1, gates[i]), -1);
    }
  }

  private static void latest() throws IOException {
    says("When an OUTCOME COMES (-1: LATEST). BAD.");
    AdderChooser x = Check.with("a=r6r6", "b=r1");
    int[] outcomes = {MIN, -3, -2, -1, 0, 1, 2, 11, 12, 13, 14, MAX};
    int[] twelve = {-1, -1, -1, 51, 6, 10, 14, 50, 51, -1, -1, -1};
    int[] one = {-1, -1, -1, 7, 6, 7, -1, -1, -1, -1, -1, -1};
    for (int i = 0; i < outcomes.length; i++) {
      due("of 12 bits " + outcomes[i], x.latest(0, outcomes[i]), twelve[i]);
      due("of 1 bit " + outcomes[i], x.latest(1, outcomes[i]), one[i]);
      due("of none " + outcomes[i], x.latest(2, outcomes[i]), -1);
      due("of -1 " + outcomes[i], x.latest(-1, outcomes[i]), -1);
    }
  }

  private static void deep() throws IOException {
    says("`int deep(int plan)`: DEEP. BAD.");
    AdderChooser x = Check.with("a=r6r6", "b=r1", "c=s1");
    due("-1", x.deep(-1), -1);
    due("12 bits: XOR, then AND, OR of each", x.deep(0), 25);
    due("1 bit", x.deep(1), 3);
    due("1 bit, SKIP", x.deep(2), 4);
    due("3", x.deep(3), -1);
    due("MIN", x.deep(MIN), -1);
    due("MAX", x.deep(MAX), -1);
    x.arrival(0, 11, 99);
    // OR, AND, XOR of bit 11.
    due("by the last A alone", x.deep(0), 3);
  }

  private static void hangs() throws IOException {
    says("Inputs on which it HANGS, as bits: A i bit i, B i bit 12 + i, CARRY bit 24. BAD.");
    AdderChooser x = Check.with("a=r6r6", "b=r1");
    due("-1", x.hangs(-1), -1);
    due("2", x.hangs(2), -1);
    due("MIN", x.hangs(MIN), -1);
    due("MAX", x.hangs(MAX), -1);
    due("A 0 and B 0", x.hangs(0), 1 | 1 << 12);
    x.arrival(0, 11, 99);
    due("A 11", x.hangs(0), 1 << 11);
    x.arrival(1, 11, 99);
    due("A 11 and B 11", x.hangs(0), 1 << 11 | 1 << 23);
    x.arrival(0, 11, 98);
    due("B 11", x.hangs(0), 1 << 23);
    x.arrival(2, 0, 99);
    due("CARRY", x.hangs(0), 1 << 24);
    for (int gate = 0; gate < 4; gate++) {
      x.delay(gate, 0);
    }
    x.arrival(1, 11, 0);
    x.arrival(0, 11, 0);
    x.arrival(2, 0, 0);
    due("all of them", x.hangs(0), (1 << 25) - 1);
    due("all of one bit", x.hangs(1), 1 | 1 << 12 | 1 << 24);
  }

  private static void times() throws IOException {
    says("At how many unlike times OUTCOMES COME. BAD.");
    AdderChooser x = Check.with("a=r6r6", "b=r1", "c=l3");
    due("-1", x.times(-1), -1);
    due("3", x.times(3), -1);
    due("MIN", x.times(MIN), -1);
    due("MAX", x.times(MAX), -1);
    due("13 of 13", x.times(0), 13);
    due("2 of 2", x.times(1), 2);
    // 6, 10, 12, 13.
    due("4 of 4", x.times(2), 4);
    x.arrival(2, 0, 99);
    x.delay(3, 4);
    due("2 of 2 with a late CARRY, alike", x.times(1), 1);
    for (int gate = 0; gate < 4; gate++) {
      x.delay(gate, 0);
    }
    due("1 of 13", x.times(0), 1);
    x.arrival(2, 0, 0);
    due("1 of 13, at 0", x.times(0), 1);
  }

  private static void adds() throws IOException {
    says("What the OUTCOMES are for a, b, c, as bits. BAD: plan, a, b (0 and more, below 2 to the WIDTH), c.");
    AdderChooser x = Check.with("a=c6c6", "b=l1");
    due("nothing", x.adds(0, 0, 0, 0), 0);
    due("all", x.adds(0, 4095, 4095, 1), 8191);
    due("a carry through all", x.adds(0, 4095, 0, 1), 4096);
    due("a carry from the lowest", x.adds(0, 4095, 1, 0), 4096);
    due("no carry", x.adds(0, 1365, 2730, 0), 4095);
    due("the highest alone", x.adds(0, 2048, 2048, 0), 4096);
    int[][] wrong = {{-1, 0, 0, 0}, {2, 0, 0, 0}, {0, -1, 0, 0}, {0, 4096, 0, 0}, {0, 0, -1, 0}, {0, 0, 4096, 0}, {0, 0, 0, -1},
      {0, 0, 0, 2}, {1, 2, 0, 0}, {1, 0, 2, 0}, {MIN, MIN, MIN, MIN}, {MAX, MAX, MAX, MAX}, {0, 4097, 0, 0}, {0, 0, 4097, 0}};
    for (int[] w : wrong) {
      due(w[0] + ", " + w[1] + ", " + w[2] + ", " + w[3], x.adds(w[0], w[1], w[2], w[3]), -1);
    }
    for (int i = 0; i < 8; i++) {
      due("one bit " + i, x.adds(1, i & 1, i >> 1 & 1, i >> 2), Integer.bitCount(i));
    }
  }

  private static void settles() throws IOException {
    says("When an OUTCOME SETTLES for a, b, c (-1: the latest one). BAD: plan, outcome, a, b, c.");
    AdderChooser x = Check.with("a=r6r6", "b=r1");
    // 4095 and 0 with a carry: as they COME; 4095 and 4095: each carry by its own g.
    due("the latest one, a carry through all", x.settles(0, -1, 4095, 0, 1), 51);
    due("outcome 11, a carry through all", x.settles(0, 11, 4095, 0, 1), 50);
    due("outcome 12, a carry through all", x.settles(0, 12, 4095, 0, 1), 51);
    due("outcome 0", x.settles(0, 0, 4095, 0, 1), 6);
    due("outcome 12, 4095 and 4095", x.settles(0, 12, 4095, 4095, 0), 4);
    due("the latest one is a sum", x.settles(0, -1, 4095, 4095, 0), 7);
    int[][] wrong = {{-1, 0, 0, 0, 0}, {2, 0, 0, 0, 0}, {0, -2, 0, 0, 0}, {0, 13, 0, 0, 0}, {1, 2, 0, 0, 0}, {0, 0, -1, 0, 0},
      {0, 0, 4096, 0, 0}, {0, 0, 0, -1, 0}, {0, 0, 0, 4096, 0}, {0, 0, 0, 0, -1}, {0, 0, 0, 0, 2}, {1, 0, 2, 0, 0},
      {1, 0, 0, 2, 0}, {0, MIN, 0, 0, 0}, {0, MAX, 0, 0, 0}, {MIN, 0, 0, 0, 0}, {MAX, 0, 0, 0, 0}, {0, 0, MAX, 0, 0}};
    for (int[] w : wrong) {
      due(w[0] + ", " + w[1] + ", " + w[2] + ", " + w[3] + ", " + w[4], x.settles(w[0], w[1], w[2], w[3], w[4]), -1);
    }
  }

  private static void slowest() throws IOException {
    says("a (1), b (2), c (3). BAD; LONG: WIDTH above 4.");
    AdderChooser x = Check.with("a=r1", "b=r4", "c=r5", "d=r1r1r1r1", "e=r1r4", "f=r6r6");
    int[] whats = {MIN, -2, -1, 4, 5, MAX};
    for (int what : whats) {
      for (int plan = 0; plan < 6; plan++) {
        due("BAD ahead of LONG " + plan + ", " + what, x.slowest(plan, what), -1);
      }
    }
    for (int what = 0; what <= 3; what++) {
      due("no PLAN, " + what, x.slowest(6, what), -1);
      due("PLAN -1, " + what, x.slowest(-1, what), -1);
      for (int plan : new int[] {2, 4, 5}) {
        due("LONG " + plan + ", " + what, x.slowest(plan, what), -7);
      }
    }
    // With c 1 bit 0 of 14 and 0 hands on a 0 at 7, by p(0); it goes on through three bits, 4 for each.
    int[] four = {19, 14, 0, 1};
    int[] one = {7, 0, 0, 1};
    for (int what = 0; what <= 3; what++) {
      due("4 bits, " + what, x.slowest(1, what), four[what]);
      due("4 bits in four BLOCKS, " + what, x.slowest(3, what), four[what]);
      due("1 bit, " + what, x.slowest(0, what), one[what]);
    }
  }

  private static void slowestOfSeveral() throws IOException {
    says("by which of them, of several the first (by c, then b, then a, the least)");
    AdderChooser x = Check.with("a=r1");
    int[][] due = {{18, 0, 0, 0}, {44, 1, 0, 0}, {59, 0, 1, 0}};
    x.delay(3, 9);
    // Each sum at 18, for all of them.
    dueSlowest(x, "all at once", due[0]);
    x.delay(3, 3);
    x.arrival(2, 0, 40);
    // The sum at 43; what comes out at 44, where p is 1.
    dueSlowest(x, "a late CARRY", due[1]);
    x.arrival(2, 0, 0);
    x.arrival(0, 0, 50);
    x.delay(1, 9);
    x.delay(2, 0);
    x.delay(3, 0);
    // c is 0: g is 0 by B at 9, where b is 0; it waits for A, where b is 1.
    dueSlowest(x, "a late A", due[2]);
  }

  private static void dueSlowest(AdderChooser x, String why, int[] due) {
    for (int what = 0; what <= 3; what++) {
      due(why + ", " + what, x.slowest(0, what), due[what]);
    }
  }

  private static void intime() throws IOException {
    says("Of all a, b, c how many SETTLE (all OUTCOMES) by t (0 .. 999) or ahead of it. BAD; LONG: WIDTH above 4.");
    AdderChooser x = Check.with("a=r1", "b=r4", "c=r5", "d=r1r1r1r1");
    for (int t : new int[] {MIN, -1, 1000, MAX}) {
      for (int plan = 0; plan < 5; plan++) {
        due("BAD ahead of LONG " + plan + ", " + t, x.intime(plan, t), -1);
      }
    }
    for (int t : new int[] {0, 999}) {
      due("no PLAN, " + t, x.intime(4, t), -1);
      due("PLAN -1, " + t, x.intime(-1, t), -1);
      due("LONG, " + t, x.intime(2, t), -7);
    }
    due("none by 0", x.intime(1, 0), 0);
    due("all by 999", x.intime(1, 999), 512);
    due("all by the slowest", x.intime(1, 19), 512);
    due("all by the slowest, four BLOCKS", x.intime(3, 19), 512);
    due("not all ahead of the slowest", x.intime(1, 18) < 512 ? 1 : 0, 1);
    due("none ahead of the first sum", x.intime(1, 5), 0);
    x.arrival(2, 0, 40);
    due("none by 42", x.intime(0, 42), 0);
    due("where p is 0 by 43", x.intime(0, 43), 4);
    due("all by 44", x.intime(0, 44), 8);
    for (int gate = 0; gate < 4; gate++) {
      x.delay(gate, 0);
    }
    x.arrival(2, 0, 0);
    due("all by 0", x.intime(1, 0), 512);
  }

  private static void shared() throws IOException {
    says("are USED in the other, too, just so (as they are made of inputs). BAD.");
    AdderChooser x = Check.with("a=r1", "b=r6r6", "c=r1", "d=c1", "e=c6c6");
    for (int none : new int[] {-1, 5, MIN, MAX}) {
      due("the one " + none, x.shared(none, 0), -1);
      due("the other " + none, x.shared(0, none), -1);
      due("both " + none, x.shared(none, none), -1);
    }
    due("with itself", x.shared(0, 0), 5);
    due("with itself, 12 bits", x.shared(1, 1), 60);
    due("with the same BLOCKS", x.shared(0, 2), 5);
    due("the lowest bit of 12", x.shared(0, 1), 5);
    due("the lowest bit of 12, turned", x.shared(1, 0), 5);
    due("p and g alone", x.shared(0, 3), 2);
    due("with itself, SELECT of 12 bits", x.shared(4, 4), x.gates(4, -1));
  }

  private static void alike() throws IOException {
    says("Whether two PLANS have the same BLOCKS: 2; else the same WIDTH: 1; else 0. BAD.");
    AdderChooser x = Check.with("a=r1", "b=r6r6", "c=r1", "d=s1", "e=s1s1s1s1s1s1s1s5", "f=r6r5");
    for (int none : new int[] {-1, 6, MIN, MAX}) {
      due("the one " + none, x.alike(none, 0), -1);
      due("the other " + none, x.alike(0, none), -1);
      due("both " + none, x.alike(none, none), -1);
    }
    due("itself", x.alike(0, 0), 2);
    due("the same BLOCKS", x.alike(0, 2), 2);
    due("another KIND", x.alike(0, 3), 1);
    due("more BLOCKS of the same WIDTH", x.alike(1, 4), 1);
    due("one bit less", x.alike(1, 5), 0);
  }

  private static void known() throws IOException {
    says("Whether BLOCKS of a PLAN are KNOWN: 1, 0. BAD.");
    AdderChooser x = Check.with("a=r1", "b=r1");
    for (int none : new int[] {-1, 2, MIN, MAX}) {
      due("none " + none, x.known(none), -1);
    }
    due("not yet", x.known(0), 0);
    x.gates(1, 3);
    due("by the other PLAN", x.known(0), 1);
    x.forget(0);
    due("still", x.known(0), 1);
    due("no second PLAN", x.known(1), -1);
  }

  // ---- the plan with the fewest gates ----

  private static void chooseNumbers() throws IOException {
    says("Of all BLOCKS of WIDTH w (1 .. 6), each of KINDS told (bits 0 .. 3, one or two of them) and of WIDTH 1 .. 3");
    AdderChooser x = new AdderChooser();
    int[] one = {1, 2, 4, 7, 13, 24};
    int[] two = {2, 6, 18, 52, 152, 444};
    for (int w = 1; w <= 6; w++) {
      due("one KIND, w " + w, x.choose(w, 8, 999, 2), one[w - 1]);
      due("two KINDS, w " + w, x.choose(w, 9, 999, 2), two[w - 1]);
    }
    for (int kinds = -2; kinds <= 33; kinds++) {
      boolean good = kinds > 0 && kinds < 16 && Integer.bitCount(kinds) <= 2;
      int all = Integer.bitCount(kinds) == 1 ? 4 : 18;
      due("KINDS " + kinds, x.choose(3, kinds, 999, 2), good ? all : -1);
      Check.feed(x, "a");
      due("chosen of KINDS " + kinds, x.chosen(3, kinds, 999), good ? 0 : -1);
      due("chosen of KINDS " + kinds + ": THE TAPE", x.count(2), good ? 0 : 1);
      x.find();
    }
    says("BAD: w, kinds, t, what; NOT: none is in time, no such BLOCK.");
    for (int w : new int[] {MIN, -1, 0, 7, 12, MAX}) {
      due("w " + w, x.choose(w, 1, 999, 0), -1);
    }
    for (int kinds : new int[] {MIN, MAX, 16, 17, 1 << 30}) {
      due("KINDS " + kinds, x.choose(1, kinds, 999, 0), -1);
    }
    for (int t : new int[] {MIN, -1, 1000, MAX}) {
      due("t " + t, x.choose(1, 1, t, 2), -1);
    }
    says("choose(): what 3 .. 9 BAD; with none in time 2 answers 0, the others NOT");
    for (int what = -2; what <= 9; what++) {
      boolean bad = what < 0 || what > 2;
      due("what " + what, x.choose(1, 1, 7, what) < 0 ? 1 : 0, bad ? 1 : 0);
      due("what " + what + ", none in time", x.choose(1, 1, 6, what), bad ? -1 : what == 2 ? 0 : -2);
    }
    for (int what : new int[] {10, 11, 17, 18, MAX}) {
      due("what " + what + ", none in time", x.choose(1, 1, 6, what), -2);
    }
    due("what MIN", x.choose(1, 1, 999, MIN), -1);
  }

  private static void chooseTimes() throws IOException {
    says("LATEST being t (0 .. 999) or less");
    AdderChooser x = new AdderChooser();
    due("one ahead", x.choose(1, 1, 6, 2), 0);
    due("just then", x.choose(1, 1, 7, 2), 1);
    due("by 0", x.choose(1, 1, 0, 2), 0);
    due("by 999", x.choose(1, 1, 999, 2), 1);
    for (int gate = 0; gate < 4; gate++) {
      x.delay(gate, 0);
    }
    due("by 0 without DELAYS", x.choose(6, 3, 0, 2), 444);
    due("LATEST 0", x.choose(6, 3, 0, 1), 0);
    x.arrival(0, 5, 99);
    due("by 98", x.choose(6, 3, 98, 2), 0);
    due("by 99", x.choose(6, 3, 99, 2), 444);
    due("five bits by 0", x.choose(5, 3, 0, 2), 152);
  }

  private static void chooseBlocks() throws IOException {
    says("of several the first by rows (BLOCK by BLOCK, the lowest first: KIND, then WIDTH, the least)");
    AdderChooser x = new AdderChooser();
    // RIPPLE has 5 a bit, however it is cut: the first by rows has the most BLOCKS.
    int[] ripple = {30, 27, 24, 1, 1, 1, 1, 1, 1, -2, -2};
    int[] whats = {0, 1, 2, 10, 11, 12, 13, 14, 15, 16, 17};
    for (int i = 0; i < whats.length; i++) {
      due("r, 6 bits, " + whats[i], x.choose(6, 1, 999, whats[i]), ripple[i]);
    }
    // By 13: l2r1 and l2l1 have 18 gates, l3 has 21; all others are later.
    int[] ahead = {18, 13, 3, 32, 1, -2, -2, -2, -2, -2, -2};
    for (int i = 0; i < whats.length; i++) {
      due("r and l, 3 bits by 13, " + whats[i], x.choose(3, 9, 13, whats[i]), ahead[i]);
    }
    due("r and l, 3 bits by 12", x.choose(3, 9, 12, 2), 0);
    due("r and l, 3 bits by 12, a BLOCK", x.choose(3, 9, 12, 10), -2);
    // SKIP: s1s1 has 12, s2 has 13; SELECT: c1c1 has 20, c2 has 21.
    due("s, 2 bits", x.choose(2, 2, 999, 0) * 100 + x.choose(2, 2, 999, 11), 1211);
    due("c, 2 bits", x.choose(2, 4, 999, 0) * 100 + x.choose(2, 4, 999, 11), 2021);
    due("c and l, 1 bit", x.choose(1, 12, 999, 0) * 100 + x.choose(1, 12, 999, 10), 531);
    due("s and c, 1 bit", x.choose(1, 6, 999, 0) * 100 + x.choose(1, 6, 999, 10), 611);
    says("10 * KIND and WIDTH of BLOCK what - 10 (10 ..)");
    due("no second BLOCK", x.choose(1, 8, 999, 11), -2);
    due("the far end", x.choose(1, 8, 999, MAX), -2);
    due("the eighth", x.choose(6, 1, 999, 17), -2);
    due("the ninth", x.choose(6, 1, 999, 18), -2);
  }

  /** What was found for other numbers, or by other times, is no answer. */
  private static void chooseAgain() throws IOException {
    says("those with the fewest GATES");
    AdderChooser x = new AdderChooser();
    due("3 bits", x.choose(3, 1, 999, 2), 4);
    due("2 bits", x.choose(2, 1, 999, 2), 2);
    due("3 bits again", x.choose(3, 1, 999, 2), 4);
    due("another KIND", x.choose(3, 8, 999, 0), 15);
    due("another KIND, its BLOCK", x.choose(3, 8, 999, 10), 31);
    due("the first KIND again", x.choose(3, 1, 999, 10), 1);
    due("a higher KIND and the first", x.choose(3, 3, 999, 2), 18);
    due("another time", x.choose(3, 1, 14, 2), 0);
    due("another time, 15", x.choose(3, 1, 15, 2), 4);
    x.arrival(2, 0, 4);
    due("another ARRIVAL", x.choose(3, 1, 15, 2), 0);
    x.delay(1, 1);
    // The CARRY at 4, and AND, OR of each bit: 13.
    due("another DELAY", x.choose(3, 1, 15, 1), 13);
    x.row(0, 1, 1);
    x.put(0, 0, 50);
    x.from(0, 0);
    due("another ARRIVAL by from()", x.choose(3, 1, 15, 2), 0);
  }

  /** The net of the widest plans, asked just before, is none of these. */
  private static void leftBehind() throws IOException {
    says("What choose() would find becomes a PLAN");
    String[] wide = {"c6c6", "l6l6", "s6s6", "c3c3c3c3", "r6r6", "c6l6", "s1c5r6", "c1c1c1c1c1c1c1c5"};
    for (String blocks : wide) {
      AdderChooser x = Check.with("w=" + blocks, "r=r1", "c=c1", "l=l2", "s=s2");
      x.gates(0, -1);
      due("1 bit behind " + blocks, x.choose(1, 1, 999, 0), 5);
      x.settles(0, -1, 4095, 1, 1);
      due("3 bits by 13 behind " + blocks, x.choose(3, 9, 13, 2), 3);
      x.hangs(0);
      Check.feed(x, "n");
      due("chosen behind " + blocks, x.chosen(3, 9, 13) * 100 + x.plan(5, 0), 532);
      x.gates(0, -1);
      due("all of 2 bits by 13 behind " + blocks, x.intime(4, 13), 32);
    }
    says("are USED in the other, too, just so (as they are made of inputs)");
    int[][] due = {{5, 2, 5, 5}, {2, 10, 2, 2}, {5, 2, 13, 10}, {5, 2, 10, 13}};
    for (String blocks : wide) {
      AdderChooser x = Check.with("w=" + blocks, "r=r1", "c=c1", "l=l2", "s=s2");
      for (int i = 0; i < 16; i++) {
        x.gates(0, -1);
        int one = i / 4;
        int other = i % 4;
        due(one + " and " + other + " behind " + blocks, x.shared(one + 1, other + 1), due[one][other]);
      }
    }
  }

  private static void chosen() throws IOException {
    says("What choose() would find becomes a PLAN, named by THE TAPE, which is empty then: its number.");
    AdderChooser x = Check.with("a=l6", "b=s1");
    Check.feed(x, "best");
    due("the longest NAME", x.chosen(3, 9, 13), 2);
    due("THE TAPE", x.count(2), 0);
    due("its NAME", x.name(2, -1) * 1000 + x.name(2, 3), 4000 + 't');
    due("its BLOCKS", x.plan(2, -2) * 1000 + x.plan(2, 0) * 10 + x.plan(2, 1), 2321);
    Check.feed(x, "a");
    due("a NAME that is there", x.chosen(1, 4, 999), 0);
    due("a NAME that is there: its BLOCKS", x.plan(0, -2) * 100 + x.plan(0, 0), 121);
    due("as many PLANS", x.count(0), 3);
    Check.feed(x, "c");
    due("the least w", x.chosen(1, 1, 7), 3);
    Check.feed(x, "d");
    due("the greatest w", x.chosen(6, 1, 27), 4);
    due("the greatest w: BLOCKS", x.plan(4, -2), 6);
  }

  private static void chosenRefused() throws IOException {
    says("BAD: w, kinds, t (THE TAPE stays); -100: THE TAPE is no NAME; NOT: none is in time; FULL.");
    AdderChooser x = Check.with("a=l6");
    int[][] bad = {{0, 1, 9}, {7, 1, 9}, {1, 0, 9}, {1, 16, 9}, {1, 7, 9}, {1, 1, -1}, {1, 1, 1000}, {MIN, 1, 9}, {MAX, 1, 9},
      {1, MIN, 9}, {1, MAX, 9}, {1, 1, MIN}, {1, 1, MAX}};
    Check.feed(x, "A");
    for (int[] b : bad) {
      due("BAD ahead of -100: " + b[0] + ", " + b[1] + ", " + b[2], x.chosen(b[0], b[1], b[2]), -1);
      due("THE TAPE stays", x.count(2), 1);
    }
    due("-100 ahead of NOT", x.chosen(1, 1, 6), -100);
    due("THE TAPE is empty", x.count(2), 0);
    due("an empty TAPE", x.chosen(1, 1, 999), -100);
    for (int i = 1; i < 12; i++) {
      Check.read(x, (char) ('a' + i) + "=r1");
    }
    says("chosen(): first -100, then NOT, then FULL");
    Check.feed(x, "zzzzz");
    due("-100 ahead of both", x.chosen(1, 1, 6), -100);
    Check.feed(x, "zzzz");
    due("NOT ahead of FULL", x.chosen(1, 1, 6), -2);
    due("NOT: THE TAPE is empty", x.count(2), 0);
    Check.feed(x, "zzzz");
    due("FULL", x.chosen(1, 1, 7), -3);
    due("FULL: THE TAPE is empty", x.count(2), 0);
    Check.feed(x, "a");
    due("NOT of a NAME that is there", x.chosen(1, 1, 6), -2);
    due("its BLOCKS stay", x.plan(0, 0), 36);
    Check.feed(x, "a");
    due("a NAME that is there is not FULL", x.chosen(1, 1, 7) * 100 + x.plan(0, 0), 1);
    says("chosen(): BAD (THE TAPE stays), then -100, NOT, FULL");
    Check.feed(x, "zzzz");
    due("BAD ahead of FULL", x.chosen(0, 1, 7) * 10 + x.count(2), -6);
  }

  // ---- carries ----

  private static void longest() throws IOException {
    says("the lowest bit with which a RUN of that length begins (1; NOT: there is no RUN). BAD.");
    AdderChooser x = new AdderChooser();
    due("the shortest row", x.longest(0, 0, 0, 1, 0), 0);
    due("the shortest row: no RUN", x.longest(0, 0, 0, 1, 1), -2);
    due("the longest RUN", x.longest(2730, 1365, 1, 12, 0), 12);
    due("the longest RUN: where", x.longest(2730, 1365, 1, 12, 1), 0);
    due("the longest one without c", x.longest(1, 4095, 0, 12, 0), 11);
    due("of length 0: the lowest", x.longest(0b1010, 0b1010, 0, 4, 1), 1);
    due("of length 0 with c: bit 0", x.longest(0b1010, 0b1010, 1, 4, 1), 0);
    int[][] wrong = {{0, 0, 0, 0, 0}, {0, 0, 0, 13, 0}, {2, 0, 0, 1, 0}, {0, 2, 0, 1, 0}, {4096, 0, 0, 12, 0}, {0, 4096, 0, 12, 0},
      {-1, 0, 0, 12, 0}, {0, -1, 0, 12, 0}, {0, 0, -1, 12, 0}, {0, 0, 2, 12, 0}, {0, 0, 0, 12, -1}, {0, 0, 0, 12, 2},
      {MIN, MIN, MIN, MIN, MIN}, {MAX, MAX, MAX, MAX, MAX}, {0, 0, 0, 32, 0}, {0, 0, 0, 33, 0}, {3, 0, 0, 1, 0}, {0, 3, 0, 1, 1}};
    for (int[] w : wrong) {
      due(w[0] + ", " + w[1] + ", " + w[2] + ", " + w[3] + ", " + w[4], x.longest(w[0], w[1], w[2], w[3], w[4]), -1);
    }
  }

  private static void runs() throws IOException {
    says("Of all a, b of w bits (c 0) of how many LONGEST is n (0 .. 12) or less. VOID: BAD.");
    AdderChooser x = new AdderChooser();
    due("1 bit, 0", x.runs(1, 0), 4);
    due("1 bit, 12", x.runs(1, 12), 4);
    // Not 3 and 1, 1 and 3: both, then one.
    due("2 bits, 0", x.runs(2, 0), 14);
    due("2 bits, 1", x.runs(2, 1), 16);
    // Length 2: both, one, one: 4; length 1: both, one, then none or both: 4, or any, both, one: 4 by 2.
    due("3 bits, 1", x.runs(3, 1), 60);
    due("3 bits, 0", x.runs(3, 0), 60 - 4 - 8);
    due("12 bits, 11", x.runs(12, 11), 1L << 24);
    due("12 bits, 12", x.runs(12, 12), 1L << 24);
    due("12 bits, 10", x.runs(12, 10), (1L << 24) - 2048);
    int[][] wrong = {{0, 0}, {13, 0}, {-1, 0}, {MIN, 0}, {MAX, 0}, {1, -1}, {1, 13}, {1, MIN}, {1, MAX}, {12, 13}, {12, -1}};
    for (int[] w : wrong) {
      due(w[0] + ", " + w[1], x.runs(w[0], w[1]), Long.MIN_VALUE);
    }
  }

  // ---- shelves ----

  private static void shelve() throws IOException {
    says("A SHELF holds the BLOCKS of a PLAN (as they are now), or nothing (plan -1): 1. BAD.");
    AdderChooser x = Check.with("a=r1", "b=c6s6");
    int[][] wrong = {{-1, 0}, {4, 0}, {MIN, 0}, {MAX, 0}, {0, 2}, {0, -2}, {0, MIN}, {0, MAX}, {-1, -1}, {4, -1}};
    for (int[] w : wrong) {
      due(w[0] + ", " + w[1], x.shelve(w[0], w[1]), -1);
    }
    due("nothing is held", x.count(3), 0);
    due("the first SHELF, the last PLAN", x.shelve(0, 1), 1);
    due("the last SHELF, the first PLAN", x.shelve(3, 0), 1);
    due("their WIDTHS", x.taken(0, 0) * 10 + x.taken(3, 0), 121);
    due("nothing again", x.shelve(0, -1), 1);
    due("nothing is there", x.taken(0, 0), -11);
    due("nothing twice", x.shelve(0, -1), 1);
    x.row(1, 0, 4);
    due("nothing where a row was", x.shelve(1, -1) * 100 + x.put(1, 0, 0), 89);
    x.row(1, 1, 4);
    due("BLOCKS where a row was", x.shelve(1, 1) * 100 + x.put(1, 0, 0), 88);
    due("one more time", x.shelve(1, 0) * 100 + x.taken(1, 0), 101);
  }

  private static void taken() throws IOException {
    says("how many PLANS have just these (2). BAD: shelf, what; -11; -12.");
    AdderChooser x = Check.with("a=s1", "b=s2", "c=r1", "d=s1", "e=s1s1", "f=l1");
    x.shelve(0, 0);
    x.row(1, 0, 1);
    x.row(2, 1, 1);
    for (int what : new int[] {-1, 3, MIN, MAX}) {
      for (int shelf = -1; shelf <= 4; shelf++) {
        due("BAD ahead of all: " + shelf + ", " + what, x.taken(shelf, what), -1);
      }
    }
    for (int what = 0; what <= 2; what++) {
      due("SHELF -1, " + what, x.taken(-1, what), -1);
      due("SHELF 4, " + what, x.taken(4, what), -1);
      due("nothing, " + what, x.taken(3, what), -11);
      due("longs, " + what, x.taken(1, what), -12);
      due("bytes, " + what, x.taken(2, what), -12);
    }
    due("WIDTH", x.taken(0, 0), 1);
    due("not KNOWN", x.taken(0, 1), 0);
    due("two PLANS", x.taken(0, 2), 2);
    x.latest(3, 0);
    due("KNOWN by the other", x.taken(0, 1), 1);
    x.delay(0, 1);
    due("KNOWN no more", x.taken(0, 1), 0);
    x.shelve(3, 5);
    due("one PLAN", x.taken(3, 2), 1);
    x.forget(5);
    due("no PLAN", x.taken(3, 2), 0);
    x.forget(0);
    x.forget(2);
    due("none of s1", x.taken(0, 2), 0);
    x.forget(0);
    x.forget(0);
    x.forget(0);
    due("no PLANS at all", x.taken(0, 2), 0);
  }

  private static void row() throws IOException {
    says("A SHELF holds a new row of n of a sort (0 longs, 1 bytes): 1. BAD: shelf, sort, n above 20; -14.");
    AdderChooser x = Check.with("a=r1");
    int[][] wrong = {{-1, 0, 1}, {4, 0, 1}, {0, -1, 1}, {0, 2, 1}, {0, 0, 21}, {0, 1, 21}, {0, 0, MAX}, {0, 2, -1}, {0, -1, -1},
      {-1, 0, -1}, {4, 1, -1}, {MIN, 0, 1}, {MAX, 0, 1}, {0, MIN, 1}, {0, MAX, 1}};
    for (int[] w : wrong) {
      due(w[0] + ", " + w[1] + ", " + w[2], x.row(w[0], w[1], w[2]), -1);
    }
    due("-1 longs", x.row(0, 0, -1), -14);
    due("-1 bytes", x.row(3, 1, -1), -14);
    due("MIN longs", x.row(0, 0, MIN), -14);
    due("nothing is held", x.count(3), 0);
    due("no longs", x.row(0, 0, 0), 1);
    due("a row of none is held", x.count(3), 1);
    due("20 bytes", x.row(3, 1, 20), 1);
    x.put(3, 19, 5);
    due("-1 bytes: the old row stays", x.row(3, 1, -1) + x.get(3, 19), -9);
    due("21 bytes: the old row stays", x.row(3, 1, 21) + x.get(3, 19), 4);
    due("a new row", x.row(3, 1, 20), 1);
    due("a new row: 0", x.get(3, 19), 0);
    x.put(3, 0, 5);
    due("longs where bytes were", x.row(3, 0, 1) + x.get(3, 0), 1);
    due("one item alone", x.get(3, 1), Long.MIN_VALUE);
    x.shelve(2, 0);
    due("a row where BLOCKS were", x.row(2, 1, 1) + x.get(2, 0), 1);
  }

  private static void put() throws IOException {
    says("Item i of a row becomes v (of bytes its lowest 8 bits): 1. BAD: shelf; -11; -12: BLOCKS; -13.");
    AdderChooser x = Check.with("a=r1");
    x.shelve(0, 0);
    x.row(1, 0, 2);
    x.row(2, 1, 2);
    for (int i : new int[] {MIN, -1, 2, 3, 20, MAX}) {
      due("SHELF -1, " + i, x.put(-1, i, 1), -1);
      due("SHELF 4, " + i, x.put(4, i, 1), -1);
      due("nothing, " + i, x.put(3, i, 1), -11);
      due("BLOCKS, " + i, x.put(0, i, 1), -12);
      due("longs, " + i, x.put(1, i, 1), -13);
      due("bytes, " + i, x.put(2, i, 1), -13);
    }
    due("nothing has changed", x.get(1, 0) + x.get(1, 1) + x.get(2, 0) + x.get(2, 1), 0);
    due("the first long", x.put(1, 0, Long.MAX_VALUE), 1);
    due("the last long", x.put(1, 1, Long.MIN_VALUE), 1);
    due("the first long is there", x.get(1, 0), Long.MAX_VALUE);
    due("the last long is there", x.get(1, 1), Long.MIN_VALUE);
    due("the first byte", x.put(2, 0, 255), 1);
    due("the last byte", x.put(2, 1, 128), 1);
    due("the first byte is there", x.get(2, 0), -1);
    due("the last byte is there", x.get(2, 1), -128);
  }

  private static void get() throws IOException {
    says("Item i of a row. VOID: BAD, nothing, BLOCKS, no such place.");
    AdderChooser x = Check.with("a=r1");
    x.shelve(0, 0);
    x.row(1, 0, 2);
    x.row(2, 1, 20);
    x.put(1, 1, -7);
    x.put(2, 19, -7);
    int[][] none = {{-1, 0}, {4, 0}, {MIN, 0}, {MAX, 0}, {3, 0}, {0, 0}, {1, -1}, {1, 2}, {2, -1}, {2, 20}, {1, MIN}, {1, MAX},
      {2, MIN}, {2, MAX}};
    for (int[] n : none) {
      due(n[0] + ", " + n[1], x.get(n[0], n[1]), Long.MIN_VALUE);
    }
    due("the first", x.get(1, 0), 0);
    due("the last of 2", x.get(1, 1), -7);
    due("the last of 20", x.get(2, 19), -7);
  }

  private static void into() throws IOException {
    says("from its item 0 on, as many as it has items and there are OUTCOMES: how many. BAD: shelf, plan; -11; -12: no row of longs.");
    AdderChooser x = Check.with("a=r2", "b=r6r6");
    x.shelve(0, 0);
    x.row(1, 1, 20);
    for (int none : new int[] {-1, 2, MIN, MAX}) {
      due("no PLAN, ahead of nothing, " + none, x.into(2, none), -1);
      due("no PLAN, ahead of BLOCKS, " + none, x.into(0, none), -1);
      due("no SHELF, " + none, x.into(none == 2 ? 4 : none, 0), -1);
    }
    due("nothing", x.into(2, 0), -11);
    due("BLOCKS", x.into(0, 0), -12);
    due("bytes", x.into(1, 0), -12);
    due("bytes stay", x.get(1, 0), 0);
    int[] comes = {6, 10, 11};
    for (int n = 0; n <= 4; n++) {
      x.row(3, 0, n);
      due("a row of " + n, x.into(3, 0), Math.min(n, 3));
      for (int i = 0; i < n; i++) {
        due("item " + i + " of " + n, x.get(3, i), i < 3 ? comes[i] : 0);
      }
      due("no item behind " + n, x.get(3, n), Long.MIN_VALUE);
    }
    for (int n = 12; n <= 20; n++) {
      x.row(3, 0, n);
      x.put(3, n - 1, -5);
      due("12 bits, a row of " + n, x.into(3, 1), Math.min(n, 13));
      due("12 bits, the last of " + n, x.get(3, n - 1), n == 12 ? 50 : n == 13 ? 51 : -5);
    }
  }

  private static void from() throws IOException {
    says("up to the first that is none (not 0 .. 99), 12 at most: how many. BAD: shelf, side; -11; -12: no row of bytes.");
    AdderChooser x = Check.with("a=r2");
    x.shelve(0, 0);
    x.row(1, 0, 20);
    for (int side : new int[] {-1, 2, MIN, MAX}) {
      for (int shelf = -1; shelf <= 4; shelf++) {
        due("BAD ahead of all: " + shelf + ", " + side, x.from(shelf, side), -1);
      }
    }
    for (int side = 0; side <= 1; side++) {
      due("SHELF -1, " + side, x.from(-1, side), -1);
      due("SHELF 4, " + side, x.from(4, side), -1);
      due("nothing, " + side, x.from(2, side), -11);
      due("BLOCKS, " + side, x.from(0, side), -12);
      due("longs, " + side, x.from(1, side), -12);
    }
    for (int n : new int[] {0, 1, 11, 12, 13, 20}) {
      x.row(3, 1, n);
      for (int i = 0; i < n; i++) {
        x.put(3, i, 99 - i);
      }
      due("a row of " + n, x.from(3, 1), Math.min(n, 12));
      due("B 11 by a row of " + n, x.arrives(1, 11), n < 12 ? 0 : 88);
      due("CARRY by a row of " + n, x.arrives(2, 0), 0);
      due("A 0 by a row of " + n, x.arrives(0, 0), 0);
    }
    int[] none = {100, 127, 128, 255, -1, -128};
    for (int v : none) {
      x.row(3, 1, 3);
      x.put(3, 0, 7);
      x.put(3, 1, v);
      x.put(3, 2, 9);
      x.arrival(0, 1, 50);
      due("up to " + v, x.from(3, 0), 1);
      due("ahead of " + v, x.arrives(0, 0), 7);
      due("at " + v, x.arrives(0, 1), 50);
      due("behind " + v, x.arrives(0, 2), 0);
      x.put(3, 0, v);
      due("none ahead of " + v, x.from(3, 0), 0);
    }
    // B 0 came at 99: p(0) at 102, then AND, OR, XOR.
    due("slower by it", x.latest(0, 1), 109);
  }

  // ---- counts ----

  private static void countNone() throws IOException {
    says("5 unlike BLOCKS (KIND and WIDTH) among these. BAD.");
    AdderChooser x = new AdderChooser();
    for (int what : new int[] {-1, 6, MIN, MAX}) {
      due("no such, " + what, x.count(what), -1);
    }
    for (int what = 0; what <= 5; what++) {
      due("none, " + what, x.count(what), 0);
    }
    Check.read(x, "a=r1");
    due("one BLOCK", x.count(4) * 10 + x.count(5), 11);
    Check.read(x, "b=r1s1");
    due("three, two unlike", x.count(4) * 10 + x.count(5), 32);
    Check.read(x, "c=l6");
    due("four, three unlike", x.count(4) * 10 + x.count(5), 43);
    x.forget(1);
    due("two, both unlike", x.count(4) * 10 + x.count(5), 22);
    x.forget(0);
    x.forget(0);
    due("none again", x.count(4) * 10 + x.count(5), 0);
  }

  private static void countFull() throws IOException {
    says("How many: 0 PLANS, 1 KNOWN, 2 bytes of THE TAPE, 3 SHELVES that hold something, 4 BLOCKS of all PLANS together");
    AdderChooser x = new AdderChooser();
    String[] unlike = {"r1s1c1l1r2s2c2l2", "r3s3c3l3", "r4s4", "c4l4", "r5s5", "c5l5", "r6s6", "c6l6"};
    for (int i = 0; i < unlike.length; i++) {
      Check.read(x, (char) ('a' + i) + "=" + unlike[i]);
      x.gates(i, -1);
    }
    due("all BLOCKS that are unlike", x.count(5), 24);
    due("all BLOCKS", x.count(4), 24);
    due("KNOWN", x.count(1), 8);
    for (int i = 0; i < 12; i++) {
      Check.read(x, (char) ('a' + i) + "=r1r1r1r1r1r1r1" + "rscl".charAt(i % 4) + (i / 4 + 1));
      x.gates(i, -1);
      due("KNOWN " + i, x.count(1), 9 + i);
    }
    due("12 PLANS", x.count(0), 12);
    due("96 BLOCKS", x.count(4), 96);
    due("12 unlike ones", x.count(5), 12);
    due("20 KNOWN", x.count(1), 20);
    for (int i = 0; i < 40; i++) {
      x.feed('z');
    }
    due("40 bytes", x.count(2), 40);
    for (int shelf = 0; shelf < 4; shelf++) {
      due("SHELF " + shelf + " is filled", x.row(shelf, shelf & 1, 0) * 10 + x.count(3), 11 + shelf);
    }
    x.shelve(1, 0);
    due("four SHELVES", x.count(3), 4);
    x.shelve(2, -1);
    due("three SHELVES", x.count(3), 3);
  }
}
