/** Each promise by answers that were worked out by hand from the document. */
public final class PromisesTest {
  private static final int MIN = Integer.MIN_VALUE, MAX = Integer.MAX_VALUE;
  private static final Check CHECK = new Check();

  private static void due(String call, long got, long want) {
    CHECK.due(call, got, want);
  }

  public static void main(String[] args) {
    newObject();
    feed();
    read();
    readFaults();
    readFull();
    find();
    forget();
    planAndName();
    delayAndArrival();
    gates();
    latest();
    deepHangsTimes();
    adds();
    settles();
    slowestAndIntime();
    sharedAndAlike();
    known();
    knownIsForgotten();
    knownLatestTwenty();
    choose();
    chooseOrder();
    chosen();
    chosenRefusals();
    longest();
    runs();
    shelveAndTaken();
    rowPutGet();
    into();
    from();
    count();
    constants();
    CHECK.end();
  }

  // Promise 1
  private static void newObject() {
    AdderChooser x = new AdderChooser();
    for (int what = 0; what <= 5; what++) {
      due("new: count(" + what + ")", x.count(what), 0);
    }
    due("new: known(0)", x.known(0), -1);
    due("new: find()", x.find(), -2);
    due("new: read()", x.read(), -100);
    for (int shelf = 0; shelf < 4; shelf++) {
      due("new: taken(" + shelf + ", 0)", x.taken(shelf, 0), -11);
    }
    int[] delays = {1, 2, 2, 3};
    for (int gate = 0; gate < 4; gate++) {
      due("new: delay(" + gate + ")", x.delay(gate, 0), delays[gate]);
    }
    for (int place = 0; place < 12; place++) {
      due("new: arrives(0, " + place + ")", x.arrives(0, place), 0);
      due("new: arrives(1, " + place + ")", x.arrives(1, place), 0);
    }
    due("new: arrives(2, 0)", x.arrives(2, 0), 0);
  }

  // Promise 2
  private static void feed() {
    AdderChooser x = new AdderChooser();
    for (int bad : new int[] {31, 127, -1, 0, MIN, MAX, 256 + 97}) {
      due("feed(" + bad + ")", x.feed(bad), -1);
    }
    due("feed: nothing came", x.count(2), 0);
    due("feed(32)", x.feed(32), 1);
    due("feed(126)", x.feed(126), 2);
    for (int many = 3; many <= 40; many++) {
      due("feed: " + many, x.feed('a'), many);
    }
    due("feed: a 41st", x.feed('a'), -3);
    due("feed: a wrong 41st", x.feed(31), -1);
    due("feed: as many as before", x.count(2), 40);
  }

  // Promise 3
  private static void read() {
    AdderChooser x = new AdderChooser();
    due("read a", Check.read(x, "a=r1"), 0);
    due("read zzzz", Check.read(x, "zzzz=s2c3l6r1"), 1);
    due("read: the tape is empty", x.count(2), 0);
    due("read: width", x.plan(1, -1), 12);
    due("read: s2", x.plan(1, 0), 12);
    due("read: c3", x.plan(1, 1), 23);
    due("read: l6", x.plan(1, 2), 36);
    due("read: r1", x.plan(1, 3), 1);
    due("read a again", Check.read(x, "a=l6l6"), 0);
    due("read a again: no new one", x.count(0), 2);
    due("read a again: other blocks", x.plan(0, -1), 12);
    due("read: az is not za", Check.read(x, "az=r1") * 10 + Check.read(x, "za=r1"), 23);
    due("read: aa is not a", Check.read(x, "aa=r1"), 4);
  }

  private static void readFaults() {
    String[] texts = {
      "", "=", "a", "a=", "a=r", "a=r0", "a=r7", "a=x1", "abcd", "abcde", "abcde=r1", "Ab=r1", "a1=r1",
      "a r1", "a=r1 ", "a= r1", "a=R1", "a=r1r", "a=r1=", "a=rr", "a=r1r1r1r1r1r1r1r1r1", "a=r6r6r",
      "a=r6r6 ", "a=r6r6r1", "a=r6r5r2", "a=r6r1r6", "abcd=r6s6r", " a=r1", "a==r1", "a=1r", "a=r12", "{=r1", "`=r1"
    };
    int[] faults = {
      0, 0, 1, 2, 3, 3, 3, 2, 4, 4, 4, 0, 1,
      1, 4, 2, 2, 5, 4, 3, 18, 6,
      6, 6, 7, 7, 9, 0, 2, 2, 4, 0, 0
    };
    AdderChooser x = Check.with("b=r1");
    for (int i = 0; i < texts.length; i++) {
      due("read " + texts[i], Check.read(x, texts[i]), -100 - faults[i]);
      due("read " + texts[i] + ": the tape is empty", x.count(2), 0);
    }
    due("read: no fault makes a plan", x.count(0), 1);
    due("read: 8 blocks of width 8", Check.read(x, "a=r1r1r1r1r1r1r1r1"), 1);
    due("read: a fault leaves the old blocks", Check.read(x, "a=r2r") * 100 + x.plan(1, -2), -10500 + 8);
  }

  private static void readFull() {
    AdderChooser x = new AdderChooser();
    for (int i = 0; i < 12; i++) {
      due("read: plan " + i, Check.read(x, (char) ('a' + i) + "=r1"), i);
    }
    due("read: a 13th", Check.read(x, "m=r1"), -3);
    due("read: a 13th: the tape is empty", x.count(2), 0);
    due("read: a 13th with a fault", Check.read(x, "m=r1r"), -105);
    due("read: a name that is there", Check.read(x, "c=l4"), 2);
    due("read: 12 stay", x.count(0), 12);
    Check.feed(x, "m");
    due("chosen: a 13th", x.chosen(1, 1, 99), -3);
    due("chosen: a 13th: the tape is empty", x.count(2), 0);
    Check.feed(x, "l");
    due("chosen: a name that is there", x.chosen(1, 8, 99), 11);
    x.forget(0);
    due("read: 12 again", Check.read(x, "m=r1"), 11);
  }

  // Promise 4
  private static void find() {
    AdderChooser x = Check.with("a=r1", "ab=r2", "abcd=r3");
    String[] names = {"a", "ab", "abcd", "abc", "b", "", "abcde", "a ", "A", "a=r1", "ba"};
    int[] numbers = {0, 1, 2, -2, -2, -2, -2, -2, -2, -2, -2};
    for (int i = 0; i < names.length; i++) {
      Check.feed(x, names[i]);
      due("find " + names[i], x.find(), numbers[i]);
      due("find " + names[i] + ": the tape is empty", x.count(2), 0);
    }
  }

  // Promise 5
  private static void forget() {
    AdderChooser x = Check.with("a=r1", "b=s2", "c=c3", "d=l4");
    for (int bad : new int[] {-1, 4, MIN, MAX}) {
      due("forget(" + bad + ")", x.forget(bad), -1);
    }
    x.gates(1, -1);
    x.shelve(0, 1);
    due("forget(1)", x.forget(1), 3);
    due("forget: c moves up", x.plan(1, 0), 23);
    due("forget: d moves up", x.plan(2, 0), 34);
    due("forget: a stays", x.plan(0, 0), 1);
    due("forget: c's name", x.name(1, 0), 'c');
    due("forget: there are 3", x.plan(3, -1), -1);
    due("forget: known stays", x.count(1), 1);
    due("forget: the shelf stays", x.taken(0, 0), 2);
    due("forget: the shelf's blocks are known", x.taken(0, 1), 1);
    due("forget the last", x.forget(2), 2);
    due("forget: b comes behind", Check.read(x, "b=r1"), 2);
    due("forget the first", x.forget(0) * 10 + x.forget(0), 21);
    due("forget all", x.forget(0), 0);
    due("forget none", x.forget(0), -1);
  }

  // Promises 6 and 7
  private static void planAndName() {
    AdderChooser x = Check.with("ax=r1s2c3l6", "wxyz=l1l1l1l1l1l1l1l1");
    int[] whats = {-3, -2, -1, 0, 1, 2, 3, 4, 7, 8, MIN, MAX};
    int[] first = {-1, 4, 12, 1, 12, 23, 36, -2, -2, -2, -1, -2};
    int[] second = {-1, 8, 8, 31, 31, 31, 31, 31, 31, -2, -1, -2};
    for (int i = 0; i < whats.length; i++) {
      due("plan(0, " + whats[i] + ")", x.plan(0, whats[i]), first[i]);
      due("plan(1, " + whats[i] + ")", x.plan(1, whats[i]), second[i]);
      due("plan(2, " + whats[i] + ")", x.plan(2, whats[i]), -1);
      due("plan(-1, " + whats[i] + ")", x.plan(-1, whats[i]), -1);
    }
    int[] letters = {-2, -1, 0, 1, 2, 3, 4, MIN, MAX};
    int[] ax = {-1, 2, 'a', 'x', -2, -2, -2, -1, -2};
    int[] wxyz = {-1, 4, 'w', 'x', 'y', 'z', -2, -1, -2};
    for (int i = 0; i < letters.length; i++) {
      due("name(0, " + letters[i] + ")", x.name(0, letters[i]), ax[i]);
      due("name(1, " + letters[i] + ")", x.name(1, letters[i]), wxyz[i]);
      due("name(2, " + letters[i] + ")", x.name(2, letters[i]), -1);
      due("name(-1, " + letters[i] + ")", x.name(-1, letters[i]), -1);
    }
  }

  // Promises 8, 9 and 10
  private static void delayAndArrival() {
    AdderChooser x = Check.with("a=r1");
    due("delay(0, 9)", x.delay(0, 9), 1);
    due("delay(0, 0)", x.delay(0, 0), 9);
    due("delay(0, 10)", x.delay(0, 10), -1);
    due("delay(0, -1)", x.delay(0, -1), -1);
    due("delay(4, 1)", x.delay(4, 1), -1);
    due("delay(-1, 1)", x.delay(-1, 1), -1);
    due("delay(0, 1)", x.delay(0, 1), 0);
    due("delay(3, 4)", x.delay(3, 4), 3);
    due("delay: XOR takes 4", x.latest(0, 0), 8);
    due("arrival(0, 0, 99)", x.arrival(0, 0, 99), 0);
    due("arrival(0, 0, 100)", x.arrival(0, 0, 100), -1);
    due("arrival(0, 0, -1)", x.arrival(0, 0, -1), -1);
    due("arrival(0, 0, 7)", x.arrival(0, 0, 7), 99);
    due("arrival(1, 11, 8)", x.arrival(1, 11, 8), 0);
    due("arrival(0, 11, 6)", x.arrival(0, 11, 6), 0);
    due("arrival(2, 0, 5)", x.arrival(2, 0, 5), 0);
    due("arrives(0, 0)", x.arrives(0, 0), 7);
    due("arrives(1, 0)", x.arrives(1, 0), 0);
    due("arrives(0, 11)", x.arrives(0, 11), 6);
    due("arrives(1, 11)", x.arrives(1, 11), 8);
    due("arrives(2, 0)", x.arrives(2, 0), 5);
    int[][] none = {{0, 12}, {0, -1}, {1, 12}, {1, -1}, {2, 1}, {2, -1}, {3, 0}, {-1, 0}, {MIN, MAX}, {MAX, 0}};
    for (int[] input : none) {
      due("arrives(" + input[0] + ", " + input[1] + ")", x.arrives(input[0], input[1]), -1);
      due("arrival(" + input[0] + ", " + input[1] + ", 1)", x.arrival(input[0], input[1], 1), -1);
    }
  }

  // Promise 11: r1 is XOR, AND, XOR, AND, OR; the others by hand likewise.
  private static void gates() {
    AdderChooser x = Check.with("r=r1", "s=s1", "c=c1", "l=l1", "ss=s2", "cc=c1c1", "ll=l6l6");
    int[][] due = {
      {5, 0, 2, 1, 2}, {6, 0, 2, 2, 2}, {10, 2, 4, 3, 1}, {5, 0, 2, 1, 2}, {13, 0, 6, 3, 4}, {20, 4, 8, 6, 2},
      {108, 0, 56, 28, 24}
    };
    for (int plan = 0; plan < due.length; plan++) {
      for (int gate = -1; gate <= 3; gate++) {
        due("gates(" + plan + ", " + gate + ")", x.gates(plan, gate), due[plan][gate + 1]);
      }
    }
    for (int bad : new int[] {-2, 4, MIN, MAX}) {
      due("gates(0, " + bad + ")", x.gates(0, bad), -1);
    }
    due("gates(7, 0)", x.gates(7, 0), -1);
    due("gates(-1, 0)", x.gates(-1, 0), -1);
  }

  // Promise 12
  private static void latest() {
    AdderChooser x = Check.with("r=r1", "s=s1", "c=c1", "l=l2", "rr=r2");
    int[][] due = {{7, 6, 7}, {9, 6, 9}, {9, 8, 9}, {10, 6, 10, 9}, {11, 6, 10, 11}};
    for (int plan = 0; plan < due.length; plan++) {
      for (int outcome = -1; outcome < due[plan].length - 1; outcome++) {
        due("latest(" + plan + ", " + outcome + ")", x.latest(plan, outcome), due[plan][outcome + 1]);
      }
    }
    due("latest(0, 2)", x.latest(0, 2), -1);
    due("latest(3, 3)", x.latest(3, 3), -1);
    due("latest(0, -2)", x.latest(0, -2), -1);
    due("latest(0, MAX)", x.latest(0, MAX), -1);
    due("latest(0, MIN)", x.latest(0, MIN), -1);
    due("latest(5, 0)", x.latest(5, 0), -1);
    due("latest(-1, 0)", x.latest(-1, 0), -1);
    x.arrival(2, 0, 50);
    due("latest: a late carry, the sum", x.latest(0, 0), 53);
    due("latest: a late carry", x.latest(0, -1), 54);
    due("latest: a late carry, NOT of it", x.latest(2, 0), 55);
    x.arrival(1, 0, 99);
    due("latest: a late B", x.latest(0, 0), 105);
    x.delay(1, 0);
    x.delay(2, 0);
    x.delay(3, 0);
    due("latest: no delay", x.latest(0, 0), 99);
    due("latest: a NOT has one", x.latest(2, 0), 100);
  }

  // Promises 13, 14 and 15
  private static void deepHangsTimes() {
    AdderChooser x = Check.with("r=r1", "s=s1", "c=c1", "rr=r2");
    due("deep(0)", x.deep(0), 3);
    due("hangs(0)", x.hangs(0), 4097);
    due("times(0)", x.times(0), 2);
    due("deep(1)", x.deep(1), 4);
    due("hangs(1)", x.hangs(1), 4097);
    due("deep(2)", x.deep(2), 4);
    due("hangs(2)", x.hangs(2), 4097);
    due("deep(3)", x.deep(3), 5);
    due("times(3)", x.times(3), 3);
    x.arrival(2, 0, 3);
    due("hangs: the carry as late as p(0)", x.hangs(0), 1 << 24 | 4097);
    due("deep: the carry as late as p(0)", x.deep(0), 3);
    x.arrival(2, 0, 4);
    due("hangs: the carry later", x.hangs(0), 1 << 24);
    due("deep: the carry later", x.deep(0), 2);
    x.arrival(1, 0, 2);
    due("hangs: B alone", x.hangs(0), 4096);
    x.arrival(0, 1, 90);
    due("hangs: A 1 alone", x.hangs(3), 2);
    due("hangs: no A 1 in r1", x.hangs(0), 4096);
    for (int gate = 0; gate < 4; gate++) {
      x.delay(gate, 0);
    }
    x.arrival(0, 1, 0);
    x.arrival(0, 0, 4);
    due("times: all at once", x.times(0), 1);
    due("hangs: by delay 0", x.hangs(0), 1 << 24 | 1);
    // OR of g(0), AND of XOR; each comes at 4.
    due("deep: by delay 0", x.deep(0), 3);
    x.arrival(1, 1, 4);
    due("times: two bits at once", x.times(3), 1);
    due("hangs: two bits at once", x.hangs(3), 1 << 24 | 1 | 1 << 13);
    for (int bad : new int[] {-1, 4, MIN, MAX}) {
      due("deep(" + bad + ")", x.deep(bad), -1);
      due("hangs(" + bad + ")", x.hangs(bad), -1);
      due("times(" + bad + ")", x.times(bad), -1);
    }
    AdderChooser z = Check.with("a=r2");
    z.arrival(2, 0, 99);
    due("times: three unlike", z.times(0), 3);
    z.delay(1, 1);
    z.delay(2, 2);
    // s(1) comes 1 + 2 + 3 behind the carry, what comes out 1 + 2 + 1 + 2.
    due("times: two are like", z.times(0), 2);
    due("deep: of both the deeper one", z.deep(0), 4);
  }

  // Promise 16
  private static void adds() {
    for (String text : new String[] {"r=r2s1", "s=s3", "c=c1c2", "l=l3"}) {
      AdderChooser x = Check.with(text);
      for (int i = 0; i < 128; i++) {
        int a = i & 7;
        int b = i >> 3 & 7;
        int c = i >> 6;
        due(text + ": adds(0, " + a + ", " + b + ", " + c + ")", x.adds(0, a, b, c), a + b + c);
      }
    }
    AdderChooser x = Check.with("r=r3", "b=c2", "c=c1", "d=r1", "all=l4s3r2c3");
    for (int a = 0; a < 4096; a += 91) {
      due("adds(4, " + a + ")", x.adds(4, a, 4095 - a / 3, 1), a + 4095 - a / 3 + 1);
    }
    due("adds: all ones", x.adds(4, 4095, 4095, 1), 8191);
    int[][] bad = {{0, 8, 0, 0}, {0, -1, 0, 0}, {0, 0, 8, 0}, {0, 0, -1, 0}, {0, 0, 0, 2}, {0, 0, 0, -1},
      {5, 0, 0, 0}, {-1, 0, 0, 0}, {4, 4096, 0, 0}, {4, 0, 4096, 0}, {0, MIN, 0, 0}, {0, 0, MAX, 0}};
    for (int[] b : bad) {
      due("adds: wrong numbers", x.adds(b[0], b[1], b[2], b[3]), -1);
    }
  }

  // Promise 17
  private static void settles() {
    AdderChooser x = Check.with("r=r1", "w=r2");
    int[][] due = {
      // a, b, c; the sum, what comes out, the latest
      {0, 0, 0, 6, 4, 6}, {1, 1, 0, 6, 4, 6}, {1, 0, 1, 6, 7, 7}, {1, 0, 0, 6, 4, 6}, {1, 1, 1, 6, 4, 6},
      {0, 1, 1, 6, 7, 7}, {0, 0, 1, 6, 7, 7}
    };
    for (int[] d : due) {
      String call = d[0] + ", " + d[1] + ", " + d[2] + ")";
      due("settles(0, 0, " + call, x.settles(0, 0, d[0], d[1], d[2]), d[3]);
      due("settles(0, 1, " + call, x.settles(0, 1, d[0], d[1], d[2]), d[4]);
      due("settles(0, -1, " + call, x.settles(0, -1, d[0], d[1], d[2]), d[5]);
    }
    x.arrival(2, 0, 40);
    due("settles: out of 1 and 1 ahead of the carry", x.settles(0, 1, 1, 1, 0), 4);
    due("settles: out of 0 and 0 ahead of the carry", x.settles(0, 1, 0, 0, 1), 7);
    due("settles: the sum waits for it", x.settles(0, 0, 0, 0, 1), 43);
    due("settles: out of 1 and 0 waits for it", x.settles(0, 1, 1, 0, 0), 44);
    x.arrival(0, 0, 60);
    due("settles: AND by the earliest that is 0", x.settles(0, 1, 0, 0, 0), 44);
    due("settles: an AND of A that is 1 waits", x.settles(0, 1, 1, 1, 0), 64);
    int[][] bad = {{2, 0, 0, 0, 0}, {-1, 0, 0, 0, 0}, {0, -2, 0, 0, 0}, {0, 2, 0, 0, 0}, {0, 0, 2, 0, 0},
      {0, 0, -1, 0, 0}, {0, 0, 0, 2, 0}, {0, 0, 0, -1, 0}, {0, 0, 0, 0, 2}, {0, 0, 0, 0, -1}, {1, 3, 0, 0, 0},
      {1, 0, 4, 0, 0}, {0, MIN, 0, 0, 0}, {0, MAX, 0, 0, 0}, {MAX, 0, MIN, MAX, MIN}};
    for (int[] b : bad) {
      due("settles: what is wrong", x.settles(b[0], b[1], b[2], b[3], b[4]), -1);
    }
  }

  // Promises 18 and 19
  private static void slowestAndIntime() {
    AdderChooser x = Check.with("r=r1", "v=r5", "q=r4");
    int[] worst = {7, 0, 0, 1};
    for (int what = 0; what <= 3; what++) {
      due("slowest(0, " + what + ")", x.slowest(0, what), worst[what]);
    }
    due("intime(0, 7)", x.intime(0, 7), 8);
    due("intime(0, 6)", x.intime(0, 6), 5);
    due("intime(0, 5)", x.intime(0, 5), 0);
    due("intime(0, 0)", x.intime(0, 0), 0);
    due("intime(0, 999)", x.intime(0, 999), 8);
    due("intime(2, 999)", x.intime(2, 999), 512);
    due("slowest(2, 0)", x.slowest(2, 0), 19);
    due("slowest(2, 1)", x.slowest(2, 1), 14);
    due("slowest(2, 3)", x.slowest(2, 3), 1);
    x.arrival(0, 0, 9);
    // p(0) comes at 12 now, and the sum at 15 for all; out of 1 and 0 with the carry at 16.
    due("slowest: by a late A", x.slowest(0, 0), 16);
    due("slowest: by a late A, a", x.slowest(0, 1), 0);
    due("slowest: by a late A, b", x.slowest(0, 2), 0);
    due("slowest: by a late A, c", x.slowest(0, 3), 1);
    due("intime: by a late A", x.intime(0, 15), 5);
    x.delay(3, 9);
    due("slowest: all settle with the sum", x.slowest(0, 0), 27);
    due("slowest: of all the first, c", x.slowest(0, 3), 0);
    due("intime: none ahead of the sum", x.intime(0, 26), 0);
    due("intime: all with the sum", x.intime(0, 27), 8);
    for (int bad : new int[] {-1, 4, MIN, MAX}) {
      due("slowest(0, " + bad + ")", x.slowest(0, bad), -1);
      due("slowest(1, " + bad + ")", x.slowest(1, bad), -1);
      due("slowest(" + (bad == 4 ? 3 : bad) + ", 0)", x.slowest(bad == 4 ? 3 : bad, 0), -1);
      due("intime(" + (bad == 4 ? 3 : bad) + ", 0)", x.intime(bad == 4 ? 3 : bad, 0), -1);
    }
    for (int bad : new int[] {-1, 1000, MIN, MAX}) {
      due("intime(0, " + bad + ")", x.intime(0, bad), -1);
      due("intime(1, " + bad + ")", x.intime(1, bad), -1);
    }
    due("slowest(1, 0)", x.slowest(1, 0), -7);
    due("intime(1, 0)", x.intime(1, 0), -7);
    Check.read(x, "r=s1");
    due("slowest: other blocks of the same plan", x.intime(0, 999), 8);
    due("slowest: other blocks of the same plan, wider", Check.read(x, "r=r2") + x.intime(0, 999), 32);
    due("slowest: made none known", x.count(1), 0);
  }

  // Promises 20 and 21
  private static void sharedAndAlike() {
    AdderChooser x = Check.with("r=r1", "l=l1", "s=s1", "c=c1", "rr=r2", "rl=r1l1", "ri=r1");
    int[][] due = {
      // shared with each, alike with each
      {5, 5, 5, 2, 5, 5, 5}, {2, 1, 1, 1, 0, 0, 2},
      {5, 5, 5, 2, 5, 5, 5}, {1, 2, 1, 1, 0, 0, 1},
      {5, 5, 6, 2, 5, 5, 5}, {1, 1, 2, 1, 0, 0, 1},
      {2, 2, 2, 10, 2, 2, 2}, {1, 1, 1, 2, 0, 0, 1},
      {5, 5, 5, 2, 10, 10, 5}, {0, 0, 0, 0, 2, 1, 0},
      {5, 5, 5, 2, 10, 10, 5}, {0, 0, 0, 0, 1, 2, 0},
      {5, 5, 5, 2, 5, 5, 5}, {2, 1, 1, 1, 0, 0, 2}
    };
    for (int one = 0; one < 7; one++) {
      for (int two = 0; two < 7; two++) {
        due("shared(" + one + ", " + two + ")", x.shared(one, two), due[2 * one][two]);
        due("alike(" + one + ", " + two + ")", x.alike(one, two), due[2 * one + 1][two]);
      }
    }
    for (int bad : new int[] {-1, 7, MIN, MAX}) {
      due("shared(0, " + bad + ")", x.shared(0, bad), -1);
      due("shared(" + bad + ", 0)", x.shared(bad, 0), -1);
      due("alike(0, " + bad + ")", x.alike(0, bad), -1);
      due("alike(" + bad + ", 0)", x.alike(bad, 0), -1);
      due("alike(" + bad + ", " + bad + ")", x.alike(bad, bad), -1);
    }
    due("shared: made none known", x.count(1), 0);
  }

  // Promise 22
  private static void known() {
    AdderChooser x = Check.with("a=r1", "b=r1", "c=l1", "d=s1");
    for (int bad : new int[] {-1, 4, MIN, MAX}) {
      due("known(" + bad + ")", x.known(bad), -1);
    }
    x.hangs(0);
    x.times(0);
    x.adds(0, 0, 0, 0);
    x.settles(0, 0, 0, 0, 0);
    x.slowest(0, 0);
    x.intime(0, 0);
    x.shared(0, 0);
    x.alike(0, 0);
    x.choose(1, 1, 99, 0);
    x.row(0, 0, 2);
    x.into(0, 0);
    x.shelve(1, 0);
    x.taken(1, 0);
    x.taken(1, 1);
    x.plan(0, -1);
    x.gates(0, 4);
    x.latest(0, 2);
    x.latest(0, -2);
    x.deep(4);
    due("known: by none of these", x.count(1), 0);
    due("known(0): not yet", x.known(0), 0);
    x.gates(0, 0);
    due("known(0): by gates()", x.known(0), 1);
    due("known(1): the same blocks", x.known(1), 1);
    due("known(2): other blocks of the same gates", x.known(2), 0);
    x.latest(2, 0);
    due("known(2): by latest()", x.known(2), 1);
    x.deep(3);
    due("known(3): by deep()", x.known(3), 1);
    due("known: three", x.count(1), 3);
    x.gates(1, -1);
    due("known: three still", x.count(1), 3);
    Check.read(x, "a=r2");
    due("known(0): other blocks", x.known(0), 0);
  }

  private static void knownIsForgotten() {
    AdderChooser x = Check.with("a=r1");
    x.gates(0, 0);
    x.delay(4, 1);
    x.delay(0, 10);
    x.arrival(2, 1, 0);
    x.arrival(0, 0, 100);
    x.row(0, 1, 2);
    x.put(0, 0, 100);
    x.from(0, 0);
    x.from(0, 2);
    x.row(0, 1, 0);
    x.from(0, 0);
    due("known: stays by what is refused or tells none", x.known(0), 1);
    x.delay(0, 1);
    due("known: not behind a delay, as it was", x.known(0) * 10 + x.count(1), 0);
    x.gates(0, 0);
    x.arrival(0, 11, 0);
    due("known: not behind an arrival, as it was", x.known(0) * 10 + x.count(1), 0);
    x.gates(0, 0);
    x.row(0, 1, 1);
    x.from(0, 1);
    due("known: not behind from()", x.known(0) * 10 + x.count(1), 0);
  }

  private static void knownLatestTwenty() {
    AdderChooser x = new AdderChooser();
    String kinds = "rscl";
    for (int i = 0; i < 20; i++) {
      Check.read(x, "a=" + kinds.charAt(i / 6) + (char) ('1' + i % 6));
      x.gates(0, 0);
    }
    due("known: twenty", x.count(1), 20);
    Check.read(x, "b=r1");
    due("known: the first of twenty", x.known(1), 1);
    x.latest(1, 0);
    Check.read(x, "c=l6");
    x.deep(2);
    due("known: twenty still", x.count(1), 20);
    due("known: the one asked again", x.known(1), 1);
    due("known: the newest", x.known(2), 1);
    due("known: the second is gone", Check.read(x, "d=r2") + x.known(3), 3);
    due("known: the third is there", Check.read(x, "d=r3") + x.known(3), 4);
    Check.read(x, "c=l5");
    x.deep(2);
    due("known: the third is gone", x.known(3), 0);
  }

  // Promise 23
  private static void choose() {
    AdderChooser x = new AdderChooser();
    int[] allOfOne = {1, 2, 4, 7, 13, 24};
    int[] allOfTwo = {2, 6, 18, 52, 152, 444};
    for (int w = 1; w <= 6; w++) {
      due("choose: all of one kind, " + w, x.choose(w, 8, 999, 2), allOfOne[w - 1]);
      due("choose: all of two kinds, " + w, x.choose(w, 6, 999, 2), allOfTwo[w - 1]);
    }
    due("choose(1, 1, 7, 0)", x.choose(1, 1, 7, 0), 5);
    due("choose(1, 1, 7, 1)", x.choose(1, 1, 7, 1), 7);
    due("choose(1, 1, 7, 2)", x.choose(1, 1, 7, 2), 1);
    due("choose(1, 1, 7, 10)", x.choose(1, 1, 7, 10), 1);
    due("choose(1, 1, 7, 11)", x.choose(1, 1, 7, 11), -2);
    due("choose(1, 1, 7, MAX)", x.choose(1, 1, 7, MAX), -2);
    due("choose: none in time, 0", x.choose(1, 1, 6, 0), -2);
    due("choose: none in time, 1", x.choose(1, 1, 6, 1), -2);
    due("choose: none in time, 2", x.choose(1, 1, 6, 2), 0);
    due("choose: none in time, 10", x.choose(1, 1, 6, 10), -2);
    due("choose: s1 of s and c", x.choose(1, 6, 9, 10), 11);
    due("choose: both in time", x.choose(1, 6, 9, 2), 2);
    x.arrival(2, 0, 20);
    due("choose: the times are others now", x.choose(1, 1, 7, 2), 0);
    due("choose: in time by the carry", x.choose(1, 1, 24, 1), 24);
    x.delay(2, 0);
    due("choose: by another delay", x.choose(1, 1, 24, 1), 23);
    int[][] bad = {{0, 1, 9, 0}, {7, 1, 9, 0}, {-1, 1, 9, 0}, {1, 0, 9, 0}, {1, 7, 9, 0}, {1, 15, 9, 0}, {1, 16, 9, 0},
      {1, 17, 9, 0}, {1, -1, 9, 0}, {1, 1, -1, 0}, {1, 1, 1000, 0}, {1, 1, 999, -1}, {1, 1, 999, 3}, {1, 1, 999, 9},
      {1, MIN, 9, 0}, {1, 11, 9, 0}, {MAX, 1, 9, 0}, {1, 1, MAX, 0}, {1, 1, 9, MIN}, {1, 13, 9, 0}, {1, 14, 9, 0}};
    for (int[] b : bad) {
      due("choose(" + b[0] + ", " + b[1] + ", " + b[2] + ", " + b[3] + ")", x.choose(b[0], b[1], b[2], b[3]), -1);
    }
    due("choose: none is in time and what is wrong", x.choose(1, 1, 0, 5), -1);
  }

  private static void chooseOrder() {
    AdderChooser x = new AdderChooser();
    // r1r1, r1l1, r2 (and so on) have the same gates: the first by rows is r1r1.
    due("choose: the first by rows, block 0", x.choose(2, 9, 999, 10), 1);
    due("choose: the first by rows, block 1", x.choose(2, 9, 999, 11), 1);
    due("choose: the first by rows, no more", x.choose(2, 9, 999, 12), -2);
    due("choose: gates", x.choose(2, 9, 999, 0), 10);
    due("choose: six blocks", x.choose(6, 9, 999, 15), 1);
    due("choose: no seventh", x.choose(6, 9, 999, 16), -2);
    // A RIPPLE of 4 bits comes at 19, however it is cut into blocks.
    due("choose: RIPPLE alone is late", x.choose(4, 1, 18, 2), 0);
    due("choose: RIPPLE alone is just in time", x.choose(4, 1, 19, 2), 7);
    due("choose: its latest", x.choose(4, 1, 999, 1), 19);
    Model model = new Model();
    for (int t = 10; t < 20; t++) {
      for (int what : new int[] {0, 1, 2, 10, 11, 12, 13}) {
        due("choose(4, 9, " + t + ", " + what + ")", x.choose(4, 9, t, what), model.choose(4, 9, t, what));
      }
    }
  }

  // Promise 24
  private static void chosen() {
    AdderChooser x = Check.with("a=l6", "b=s1");
    Check.feed(x, "best");
    due("chosen: a new plan", x.chosen(2, 9, 999), 2);
    due("chosen: the tape is empty", x.count(2), 0);
    due("chosen: its blocks", x.plan(2, -2) * 100 + x.plan(2, 0) * 10 + x.plan(2, 1), 211);
    due("chosen: its name", x.name(2, -1) * 1000 + x.name(2, 3), 4000 + 't');
    Check.feed(x, "a");
    due("chosen: a name that is there", x.chosen(1, 4, 9), 0);
    due("chosen: other blocks", x.plan(0, 0), 21);
    due("chosen: no new plan", x.count(0), 3);
    due("chosen: made none known", x.count(1), 0);
  }

  private static void chosenRefusals() {
    AdderChooser x = Check.with("a=l6");
    Check.feed(x, "a");
    int[][] bad = {{0, 1, 9}, {7, 1, 9}, {1, 0, 9}, {1, 16, 9}, {1, 7, 9}, {1, 1, -1}, {1, 1, 1000}, {MIN, MIN, MIN}};
    for (int[] b : bad) {
      due("chosen(" + b[0] + ", " + b[1] + ", " + b[2] + ")", x.chosen(b[0], b[1], b[2]), -1);
      due("chosen: the tape stays", x.count(2), 1);
    }
    due("chosen: none in time", x.chosen(1, 1, 6), -2);
    due("chosen: none in time: the tape is empty", x.count(2), 0);
    due("chosen: none in time: the plan stays", x.plan(0, -1), 6);
    for (String none : new String[] {"", "abcde", "A", "a ", "a=r1"}) {
      Check.feed(x, none);
      due("chosen: " + none + " is no name", x.chosen(1, 1, 6), -100);
      due("chosen: " + none + " is no name: the tape is empty", x.count(2), 0);
    }
    for (int i = 1; i < 12; i++) {
      Check.read(x, (char) ('a' + i) + "=r1");
    }
    Check.feed(x, "zz");
    due("chosen: none in time ahead of full", x.chosen(1, 1, 6), -2);
    Check.feed(x, "zz");
    due("chosen: full", x.chosen(1, 1, 7), -3);
    due("chosen: full: the tape is empty", x.count(2), 0);
    Check.feed(x, "zzzzz");
    due("chosen: no name ahead of full", x.chosen(1, 1, 7), -100);
  }

  // Promise 25
  private static void longest() {
    AdderChooser x = new AdderChooser();
    int[][] due = {
      // a, b, c, w; length, begin
      {0, 0, 0, 4, 0, -2}, {0, 0, 1, 4, 0, 0}, {1, 1, 0, 1, 0, 0}, {1, 0, 1, 1, 1, 0}, {1, 0, 0, 1, 0, -2},
      {15, 1, 0, 4, 3, 0}, {15, 0, 1, 4, 4, 0}, {15, 1, 1, 4, 3, 0}, {15, 2, 1, 4, 2, 1}, {15, 2, 0, 4, 2, 1},
      {4, 4, 0, 4, 0, 2}, {4, 4, 1, 4, 0, 0}, {0b0101, 0b0111, 0, 4, 1, 0}, {0b10101, 0b01111, 0, 5, 2, 2},
      {0b011011, 0b110001, 0, 6, 1, 0}, {0b1111, 0b0011, 0, 4, 2, 1}, {0b1011, 0b1001, 0, 4, 1, 0},
      {4095, 0, 1, 12, 12, 0}, {4095, 1, 0, 12, 11, 0}, {4095, 4095, 0, 12, 0, 0}, {2048, 2048, 0, 12, 0, 11},
      {1, 0, 1, 3, 1, 0}, {5, 0, 1, 3, 1, 0}, {0b1101, 0b0100, 1, 4, 1, 0}, {0b11101, 0b00100, 1, 5, 2, 2}
    };
    for (int[] d : due) {
      String call = "longest(" + d[0] + ", " + d[1] + ", " + d[2] + ", " + d[3] + ", ";
      due(call + "0)", x.longest(d[0], d[1], d[2], d[3], 0), d[4]);
      due(call + "1)", x.longest(d[0], d[1], d[2], d[3], 1), d[5]);
      due(call + "0) turned", x.longest(d[1], d[0], d[2], d[3], 0), d[4]);
    }
    int[][] bad = {{0, 0, 0, 0, 0}, {0, 0, 0, 13, 0}, {0, 0, 0, -1, 0}, {2, 0, 0, 1, 0}, {0, 2, 0, 1, 0}, {-1, 0, 0, 1, 0},
      {0, -1, 0, 1, 0}, {0, 0, 2, 1, 0}, {0, 0, -1, 1, 0}, {0, 0, 0, 1, 2}, {0, 0, 0, 1, -1}, {4096, 0, 0, 12, 0},
      {0, 0, 0, MIN, 0}, {0, 0, 0, MAX, 0}, {0, 0, 0, 32, 0}, {MIN, 0, 0, 4, 0}, {0, 0, 0, 4, MAX}};
    for (int[] b : bad) {
      due("longest: what is wrong", x.longest(b[0], b[1], b[2], b[3], b[4]), -1);
    }
  }

  // Promise 26
  private static void runs() {
    AdderChooser x = new AdderChooser();
    long[][] due = {{1, 0, 4}, {1, 12, 4}, {2, 0, 14}, {2, 1, 16}, {3, 0, 48}, {3, 1, 60}, {3, 2, 64}, {12, 11, 1L << 24},
      {12, 12, 1L << 24}, {12, 10, (1L << 24) - (1L << 11)}};
    for (long[] d : due) {
      due("runs(" + d[0] + ", " + d[1] + ")", x.runs((int) d[0], (int) d[1]), d[2]);
    }
    Model model = new Model();
    for (int w = 4; w <= 7; w++) {
      for (int n = 0; n <= 12; n++) {
        due("runs(" + w + ", " + n + ")", x.runs(w, n), model.runs(w, n));
      }
    }
    int[][] bad = {{0, 0}, {13, 0}, {-1, 0}, {1, -1}, {1, 13}, {MIN, 0}, {MAX, 0}, {1, MIN}, {1, MAX}};
    for (int[] b : bad) {
      due("runs(" + b[0] + ", " + b[1] + ")", x.runs(b[0], b[1]), Long.MIN_VALUE);
    }
  }

  // Promises 27 and 28
  private static void shelveAndTaken() {
    AdderChooser x = Check.with("a=r1s2", "b=r1s2", "c=s2r1");
    int[][] bad = {{-1, 0}, {4, 0}, {0, 3}, {0, -2}, {MIN, -1}, {MAX, -1}, {0, MIN}, {0, MAX}};
    for (int[] b : bad) {
      due("shelve(" + b[0] + ", " + b[1] + ")", x.shelve(b[0], b[1]), -1);
    }
    due("shelve: a shelf without blocks", x.taken(0, 0), -11);
    due("shelve(3, 0)", x.shelve(3, 0), 1);
    due("shelve: one is filled", x.count(3), 1);
    due("taken(3, 0)", x.taken(3, 0), 3);
    due("taken(3, 1)", x.taken(3, 1), 0);
    due("taken(3, 2)", x.taken(3, 2), 2);
    x.gates(1, 0);
    due("taken(3, 1): known", x.taken(3, 1), 1);
    Check.read(x, "a=l4");
    due("taken: the blocks as they were", x.taken(3, 0), 3);
    due("taken: one plan has them", x.taken(3, 2), 1);
    x.forget(1);
    due("taken: none has them", x.taken(3, 2), 0);
    due("taken: known still", x.taken(3, 1), 1);
    int[][] wrong = {{-1, 0}, {4, 0}, {3, -1}, {3, 3}, {0, 3}, {MIN, MIN}, {MAX, MAX}};
    for (int[] w : wrong) {
      due("taken(" + w[0] + ", " + w[1] + ")", x.taken(w[0], w[1]), -1);
    }
    x.row(0, 0, 1);
    x.row(1, 1, 0);
    due("taken: a row of longs", x.taken(0, 0), -12);
    due("taken: a row of bytes", x.taken(1, 2), -12);
    due("shelve(3, -1)", x.shelve(3, -1), 1);
    due("taken: nothing", x.taken(3, 0), -11);
    due("shelve(2, -1): nothing was there", x.shelve(2, -1), 1);
    due("shelve over a row", x.shelve(0, 0) * 10 + x.taken(0, 0), 14);
  }

  // Promises 29, 30 and 31
  private static void rowPutGet() {
    AdderChooser x = Check.with("a=r1");
    int[][] bad = {{-1, 0, 1}, {4, 0, 1}, {0, -1, 1}, {0, 2, 1}, {0, 0, 21}, {0, 2, -1}, {4, 0, -1}, {0, 0, MAX}, {MIN, MAX, 0}};
    for (int[] b : bad) {
      due("row(" + b[0] + ", " + b[1] + ", " + b[2] + ")", x.row(b[0], b[1], b[2]), -1);
    }
    due("row(0, 0, -1)", x.row(0, 0, -1), -14);
    due("row(0, 1, MIN)", x.row(0, 1, MIN), -14);
    due("row: nothing is there still", x.put(0, 0, 1), -11);
    due("get: nothing is there", x.get(0, 0), Long.MIN_VALUE);
    due("row(0, 0, 20)", x.row(0, 0, 20), 1);
    due("get(0, 19)", x.get(0, 19), 0);
    due("get(0, 20)", x.get(0, 20), Long.MIN_VALUE);
    due("get(0, -1)", x.get(0, -1), Long.MIN_VALUE);
    due("get(0, MAX)", x.get(0, MAX), Long.MIN_VALUE);
    due("get(4, 0)", x.get(4, 0), Long.MIN_VALUE);
    due("get(-1, 0)", x.get(-1, 0), Long.MIN_VALUE);
    due("put(0, 19, MAX)", x.put(0, 19, Long.MAX_VALUE), 1);
    due("get: a long", x.get(0, 19), Long.MAX_VALUE);
    due("put: the least", x.put(0, 0, Long.MIN_VALUE) + x.get(0, 0), Long.MIN_VALUE + 1);
    due("put(0, 20, 1)", x.put(0, 20, 1), -13);
    due("put(0, -1, 1)", x.put(0, -1, 1), -13);
    due("put(0, MIN, 1)", x.put(0, MIN, 1), -13);
    due("put(4, 0, 1)", x.put(4, 0, 1), -1);
    due("put(-1, 0, 1)", x.put(-1, 0, 1), -1);
    due("row(0, 1, 2): a new one", x.row(0, 1, 2), 1);
    due("row: new items are 0", x.get(0, 0), 0);
    long[][] bytes = {{200, -56}, {128, -128}, {127, 127}, {256, 0}, {-1, -1}, {Long.MAX_VALUE, -1}, {Long.MIN_VALUE, 0}, {511, -1}};
    for (long[] b : bytes) {
      due("put a byte " + b[0], x.put(0, 1, b[0]), 1);
      due("get a byte " + b[0], x.get(0, 1), b[1]);
    }
    due("put(0, 2, 1)", x.put(0, 2, 1), -13);
    due("row(0, 0, -1): the old one stays", x.row(0, 0, -1) + x.get(0, 1), -15);
    due("row(0, 1, 0)", x.row(0, 1, 0), 1);
    due("put: no item", x.put(0, 0, 1), -13);
    due("get: no item", x.get(0, 0), Long.MIN_VALUE);
    x.shelve(1, 0);
    due("put: blocks", x.put(1, 0, 1), -12);
    due("put: blocks, ahead of the place", x.put(1, -1, 1), -12);
    due("get: blocks", x.get(1, 0), Long.MIN_VALUE);
    due("row: other shelves are others", x.row(2, 0, 1) * 10 + x.put(2, 0, 5), 11);
    due("row: over blocks", x.row(1, 0, 1) * 10 + x.get(1, 0), 10);
    due("row: shelf 2 stays", x.get(2, 0), 5);
  }

  // Promise 32
  private static void into() {
    AdderChooser x = Check.with("a=r2");
    int[][] bad = {{-1, 0}, {4, 0}, {0, 1}, {0, -1}, {MIN, 0}, {0, MAX}};
    for (int[] b : bad) {
      due("into(" + b[0] + ", " + b[1] + ")", x.into(b[0], b[1]), -1);
    }
    due("into: nothing", x.into(0, 0), -11);
    x.row(0, 1, 5);
    due("into: bytes", x.into(0, 0), -12);
    x.shelve(0, 0);
    due("into: blocks", x.into(0, 0), -12);
    x.row(0, 0, 5);
    x.put(0, 3, 77);
    due("into: all outcomes", x.into(0, 0), 3);
    long[] due = {6, 10, 11, 77, 0};
    for (int i = 0; i < 5; i++) {
      due("into: item " + i, x.get(0, i), due[i]);
    }
    x.row(0, 0, 2);
    due("into: a short row", x.into(0, 0), 2);
    due("into: its last item", x.get(0, 1), 10);
    x.row(0, 0, 0);
    due("into: a row without items", x.into(0, 0), 0);
    Check.read(x, "b=l6l6");
    x.row(0, 0, 20);
    due("into: a wide plan", x.into(0, 1), 13);
    due("into: the highest", x.get(0, 12), x.latest(1, 12));
  }

  // Promise 33
  private static void from() {
    AdderChooser x = Check.with("a=r2");
    int[][] bad = {{-1, 0}, {4, 0}, {0, 2}, {0, -1}, {MIN, 0}, {0, MAX}};
    for (int[] b : bad) {
      due("from(" + b[0] + ", " + b[1] + ")", x.from(b[0], b[1]), -1);
    }
    due("from: nothing", x.from(0, 0), -11);
    x.row(0, 0, 5);
    due("from: longs", x.from(0, 0), -12);
    x.shelve(0, 0);
    due("from: blocks", x.from(0, 0), -12);
    x.row(0, 1, 20);
    for (int i = 0; i < 20; i++) {
      x.put(0, i, 80 + i);
    }
    due("from: 12 at most", x.from(0, 1), 12);
    due("from: side 1, place 11", x.arrives(1, 11), 91);
    due("from: side 0 stays", x.arrives(0, 0), 0);
    due("from: the carry stays", x.arrives(2, 0), 0);
    x.put(0, 2, 100);
    due("from: up to 100", x.from(0, 0), 2);
    due("from: side 0, place 1", x.arrives(0, 1), 81);
    due("from: side 0, place 2", x.arrives(0, 2), 0);
    x.put(0, 1, 200);
    due("from: up to one below 0", x.from(0, 0), 1);
    x.put(0, 0, 99);
    due("from: 99 is one", x.from(0, 0) * 100 + x.arrives(0, 0), 199);
    x.put(0, 0, 127);
    due("from: none", x.from(0, 0), 0);
    due("from: none: it stays", x.arrives(0, 0), 99);
    x.row(0, 1, 3);
    due("from: a short row of 0", x.from(0, 1), 3);
    due("from: what is behind it stays", x.arrives(1, 2) * 100 + x.arrives(1, 3), 83);
    x.row(0, 1, 0);
    due("from: a row without items", x.from(0, 1), 0);
    due("from: slower by it", x.latest(0, -1), 110);
  }

  // Promise 34
  private static void count() {
    AdderChooser x = Check.with("a=r1s2", "b=s2r1", "c=s2s3r2r1");
    x.gates(0, 0);
    x.deep(2);
    Check.feed(x, "xyz ");
    x.row(0, 0, 0);
    x.row(1, 1, 3);
    x.shelve(3, 0);
    x.shelve(2, -1);
    int[] due = {3, 2, 4, 3, 8, 4};
    for (int what = 0; what <= 5; what++) {
      due("count(" + what + ")", x.count(what), due[what]);
    }
    for (int bad : new int[] {-1, 6, MIN, MAX}) {
      due("count(" + bad + ")", x.count(bad), -1);
    }
    x.forget(2);
    due("count: blocks behind forget", x.count(4) * 10 + x.count(5), 42);
  }

  private static void constants() {
    due("BAD", AdderChooser.BAD, -1);
    due("NOT", AdderChooser.NOT, -2);
    due("FULL", AdderChooser.FULL, -3);
    due("LONG", AdderChooser.LONG, -7);
    due("VOID", AdderChooser.VOID, Long.MIN_VALUE);
  }
}
