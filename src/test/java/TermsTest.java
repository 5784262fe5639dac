import java.io.IOException;

/** Each boundary that the document's Terms name, under the words that name it; all answers are worked out by hand. */
public final class TermsTest {
  private static final int MIN = Integer.MIN_VALUE, MAX = Integer.MAX_VALUE;
  private static final int CARRY_BIT = 1 << 24, A0 = 1, B0 = 1 << 12;
  private static final Check CHECK = new Check();

  private static void due(String call, long got, long want) {
    CHECK.due(call, got, want);
  }

  private static void says(String words) throws IOException {
    CHECK.says(words);
  }

  public static void main(String[] args) throws IOException {
    manyCalls();
    widthOfBlock();
    amountOfBlocks();
    widthOfAll();
    names();
    orderOfPlans();
    toldAgain();
    gone();
    delays();
    arrivals();
    turnedGates();
    zeroAndOne();
    contradiction();
    edgesOfKinds();
    cutInTheMiddle();
    outcomes();
    used();
    comes();
    latest();
    hangs();
    deep();
    numbers();
    settles();
    settlesByParts();
    knownTwenty();
    askedAgain();
    alikeBlocks();
    knownNoMore();
    makesNoneKnown();
    widthOfNumbers();
    runFromCarry();
    runFromBothOne();
    noRun();
    tapeHolds();
    textHasNoBlanks();
    faults();
    endsTooEarly();
    faultAheadOfFull();
    tapeIsEmpty();
    firstOfSeveral();
    shelvesAtFirst();
    shelfSorts();
    bytesHaveASign();
    shelfKeepsBlocks();
    CHECK.end();
  }

  private static void manyCalls() throws IOException {
    says("An object is used for at most 512 calls after it has been made");
    AdderChooser x = new AdderChooser();
    for (int i = 0; i < 255; i++) {
      due("call " + (2 * i + 1), x.feed('a'), 1);
      due("call " + (2 * i + 2), x.find(), -2);
    }
    due("call 511", x.arrival(0, 0, 5), 0);
    due("call 512", x.arrives(0, 0), 5);
  }

  // ---- 1: blocks, plans, delays, arrivals ----

  private static void widthOfBlock() throws IOException {
    says("A BLOCK has a KIND and a WIDTH (1 .. 6 bits)");
    for (int kind = 0; kind < 4; kind++) {
      for (int figure = 0; figure <= 9; figure++) {
        String text = "a=" + "rscl".charAt(kind) + figure;
        boolean fits = figure >= 1 && figure <= 6;
        AdderChooser x = new AdderChooser();
        due(text, Check.read(x, text), fits ? 0 : -103);
        due(text + ": its block", x.plan(0, 0), fits ? 10 * kind + figure : -1);
      }
    }
  }

  private static void amountOfBlocks() throws IOException {
    says("BLOCKS: 1 to 8 of them, the lowest first");
    AdderChooser x = new AdderChooser();
    due("none", Check.read(x, "a="), -102);
    due("none: no PLAN", x.count(0), 0);
    due("one", Check.read(x, "a=s6"), 0);
    due("one: how many", x.plan(0, -2), 1);
    due("eight", Check.read(x, "b=r1s2c1l1r1s2c1l3"), 1);
    due("eight: how many", x.plan(1, -2), 8);
    due("eight: the lowest", x.plan(1, 0), 1);
    due("eight: the second", x.plan(1, 1), 12);
    due("eight: the highest", x.plan(1, 7), 33);
    due("a ninth", Check.read(x, "c=r1r1r1r1r1r1r1r1r1"), -118);
    due("a ninth: no PLAN", x.count(0), 2);
  }

  private static void widthOfAll() throws IOException {
    says("their WIDTH together: 1 .. 12");
    AdderChooser x = new AdderChooser();
    String[] fits = {"r1", "r6r5", "r6r6", "s1s1s1s1s1s1s1s5", "c3c3c3c3"};
    int[] widths = {1, 11, 12, 12, 12};
    for (int i = 0; i < fits.length; i++) {
      due(fits[i], Check.read(x, "a=" + fits[i]), 0);
      due(fits[i] + ": WIDTH", x.plan(0, -1), widths[i]);
    }
    due("13 by a figure", Check.read(x, "b=r6r5r2"), -107);
    due("13 by a figure of 6", Check.read(x, "b=r6r1r6"), -107);
    due("13 by a figure of the eighth", Check.read(x, "b=s1s1s1s1s1s1s1s6"), -117);
    due("13 by a letter", Check.read(x, "b=r6r6r1"), -106);
    due("still one PLAN", x.count(0), 1);
  }

  private static void names() throws IOException {
    says("PLANS have a NAME (1 .. 4 letters a .. z) and BLOCKS");
    AdderChooser x = new AdderChooser();
    String[] names = {"a", "z", "az", "zaz", "azaz", "zzzz"};
    for (int i = 0; i < names.length; i++) {
      due(names[i], Check.read(x, names[i] + "=r1"), i);
      due(names[i] + ": letters", x.name(i, -1), names[i].length());
      due(names[i] + ": the last", x.name(i, names[i].length() - 1), names[i].charAt(names[i].length() - 1));
      due(names[i] + ": none behind it", x.name(i, names[i].length()), -2);
    }
    String[] none = {"", "`", "{", "A", "Z", "0", "a`", "a{", "aaa1", "aaaaa"};
    int[] faults = {0, 0, 0, 0, 0, 0, 1, 1, 3, 4};
    for (int i = 0; i < none.length; i++) {
      due("no NAME " + none[i], Check.read(x, none[i] + "=r1"), -100 - faults[i]);
    }
    due("no more PLANS", x.count(0), 6);
  }

  private static void orderOfPlans() throws IOException {
    says("they stand in the order in which their NAMES came (12 at most), numbered from 0");
    AdderChooser x = new AdderChooser();
    for (int i = 0; i < 12; i++) {
      due("PLAN " + i, Check.read(x, (char) ('z' - i) + "=r1"), i);
    }
    for (int i = 0; i < 12; i++) {
      due("NAME of " + i, x.name(i, 0), 'z' - i);
    }
    due("no 13th", Check.read(x, "a=r1"), -3);
    due("no 13th: how many", x.count(0), 12);
    due("no 13th: of its number", x.plan(12, -1), -1);
  }

  private static void toldAgain() throws IOException {
    says("one whose NAME is told again gets other BLOCKS and stays where it stands");
    AdderChooser x = Check.with("a=r1", "b=s2", "c=c3");
    due("b again", Check.read(x, "b=l4l1"), 1);
    due("b: its BLOCKS", x.plan(1, -1) * 100 + x.plan(1, 0), 534);
    due("b: the old ones are gone", x.plan(1, 1), 31);
    due("c stays", x.plan(2, 0), 23);
    due("as many PLANS", x.count(0), 3);
    due("b with fewer BLOCKS", Check.read(x, "b=r1") * 10 + x.plan(1, -2), 11);
    due("b: none behind them", x.plan(1, 1), -2);
  }

  private static void gone() throws IOException {
    says("one that is gone is none, those behind it move up");
    AdderChooser x = Check.with("a=r1", "b=s2", "c=c3", "d=l4");
    x.forget(1);
    due("a stays", x.name(0, 0), 'a');
    due("c moves up", x.name(1, 0) * 100 + x.plan(1, 0), 'c' * 100 + 23);
    due("d moves up", x.name(2, 0) * 100 + x.plan(2, 0), 'd' * 100 + 34);
    due("there is no fourth", x.plan(3, -1), -1);
    Check.feed(x, "b");
    due("b is none", x.find(), -2);
    due("b comes last now", Check.read(x, "b=r1"), 3);
    while (x.count(0) > 0) {
      x.forget(0);
    }
    due("all are gone", x.plan(0, -1), -1);
    due("the first comes again", Check.read(x, "d=r1"), 0);
  }

  private static void delays() throws IOException {
    says("DELAYS of NOT (0), AND (1), OR (2), XOR (3): 0 .. 9; 1, 2, 2, 3 at first");
    AdderChooser x = new AdderChooser();
    int[] first = {1, 2, 2, 3};
    for (int gate = 0; gate < 4; gate++) {
      due("too small for " + gate, x.delay(gate, -1), -1);
      due("too large for " + gate, x.delay(gate, 10), -1);
      due("the least of all for " + gate, x.delay(gate, MIN), -1);
      due("the most of all for " + gate, x.delay(gate, MAX), -1);
      due("at first " + gate, x.delay(gate, 9), first[gate]);
      due("the largest " + gate, x.delay(gate, 0), 9);
      due("the smallest " + gate, x.delay(gate, 5), 0);
    }
    for (int none : new int[] {-1, 4, MIN, MAX}) {
      due("no gate " + none, x.delay(none, 1), -1);
    }
    for (int gate = 0; gate < 4; gate++) {
      due("each its own " + gate, x.delay(gate, 5), 5);
    }
  }

  private static void arrivals() throws IOException {
    says("ARRIVALS: of A 0 .. 11 (side 0), B 0 .. 11 (side 1), CARRY (side 2; place 0): 0 .. 99; 0 at first");
    AdderChooser x = new AdderChooser();
    for (int side = 0; side <= 2; side++) {
      for (int place = 0; place < (side == 2 ? 1 : 12); place++) {
        due("at first " + side + ", " + place, x.arrival(side, place, 99), 0);
        due("the largest " + side + ", " + place, x.arrival(side, place, 100), -1);
        due("it stays " + side + ", " + place, x.arrival(side, place, 0), 99);
        due("too small " + side + ", " + place, x.arrival(side, place, -1), -1);
        due("the smallest " + side + ", " + place, x.arrival(side, place, 30 * side + place), 0);
      }
    }
    for (int place = 0; place < 12; place++) {
      due("its own A " + place, x.arrives(0, place), place);
      due("its own B " + place, x.arrives(1, place), 30 + place);
    }
    due("its own CARRY", x.arrives(2, 0), 60);
    int[][] none = {{-1, 0}, {3, 0}, {0, -1}, {0, 12}, {1, -1}, {1, 12}, {2, -1}, {2, 1}, {2, 11}, {0, 13}, {0, MAX}, {1, MIN},
      {MIN, 0}, {MAX, 0}, {2, MAX}, {2, MIN}};
    for (int[] n : none) {
      due("no input " + n[0] + ", " + n[1], x.arrival(n[0], n[1], 1), -1);
      due("no input to ask " + n[0] + ", " + n[1], x.arrives(n[0], n[1]), -1);
    }
  }

  // ---- 2: gates and nets ----

  private static void turnedGates() throws IOException {
    says("What is there already (AND, OR, XOR also with x and y turned) is that one");
    // s2 makes AND p(0) p(1), l2 AND p(1) p(0); with p, g (4), s(0), AND p(0) c, the carry into bit 1, s(1), AND P c: 10.
    AdderChooser x = Check.with("s=s2", "l=l2");
    due("gates of s2", x.gates(0, -1), 13);
    due("gates of l2", x.gates(1, -1), 13);
    due("shared", x.shared(0, 1), 10);
  }

  private static void zeroAndOne() throws IOException {
    says("Nothing is made, but: NOT of ZERO is ONE, of ONE is ZERO, of a NOT x is x; AND: of anything and ZERO is ZERO");
    // c1: p, g, NOT p, OR g p; NOT c, two ANDs and their OR; AND of OR g p, c, and an OR.
    AdderChooser x = Check.with("c=c1", "cc=c2");
    int[] one = {10, 2, 4, 3, 1};
    // c2 besides: p, g; XOR, AND, OR by ZERO, the same by ONE; two ANDs and their OR.
    int[] two = {21, 2, 9, 6, 4};
    for (int gate = -1; gate < 4; gate++) {
      due("c1: gates " + gate, x.gates(0, gate), one[gate + 1]);
      due("c2: gates " + gate, x.gates(1, gate), two[gate + 1]);
    }
  }

  private static void contradiction() throws IOException {
    says("AND of x and NOT x is a GATE as any other");
    // c1 makes AND of NOT p, c and AND of p, NOT c: both stay, whatever they are.
    AdderChooser x = Check.with("c=c1");
    due("both ANDs of the sum, g, and the one of what comes out", x.gates(0, 1), 4);
  }

  private static void edgesOfKinds() throws IOException {
    says("each a letter r, s, c, l (KINDS 0 .. 3) and a figure 1 .. 6");
    AdderChooser x = Check.with("a=r1", "b=s1", "c=c1", "d=l1", "e=r6", "f=s6", "g=c6", "h=l6");
    // SKIP of one bit: P is p(0), AND of P, c is there: one OR more. AHEAD of one bit is RIPPLE.
    int[] ones = {5, 6, 10, 5};
    for (int plan = 0; plan < 4; plan++) {
      due("one bit: gates of " + plan, x.gates(plan, -1), ones[plan]);
    }
    due("one bit: AHEAD is RIPPLE", x.shared(0, 3), 5);
    // RIPPLE: 5 a bit. SKIP: 5 ANDs of P, one with c, one OR.
    due("six bits: RIPPLE", x.gates(4, -1), 30);
    due("six bits: SKIP", x.gates(5, -1), 37);
    // SELECT: 2 a bit for p, g; by ZERO 3 (none in the lowest bit); by ONE 3 (2 in the lowest); 3 for the sum; NOT c; 2 at last.
    due("six bits: SELECT", x.gates(6, -1), 12 + 15 + 17 + 18 + 1 + 2);
    for (int plan = 0; plan < 8; plan++) {
      int all = plan < 4 ? 1 : 63;
      due("all ones: " + plan, x.adds(plan, all, all, 1), 2 * all + 1);
      due("all zeros: " + plan, x.adds(plan, 0, 0, 0), 0);
      due("a carry through all: " + plan, x.adds(plan, all, 0, 1), all + 1);
    }
  }

  private static void cutInTheMiddle() throws IOException {
    says("m of bits i .. j is (i + j) by 2, cut, by these numbers");
    AdderChooser x = Check.with("a=l4", "b=l3", "c=r1l3", "d=l2");
    // G of 0 and 1 comes at 7, of all of l3 and of l4 at 11, P at 7; then an AND with c, or an OR with G, and an OR.
    due("l2: what comes out", x.latest(3, 2), 9);
    due("l3: what comes out", x.latest(1, 3), 13);
    due("l4: what comes out", x.latest(0, 4), 13);
    due("l4: the sum of bit 3", x.latest(0, 3), 16);
    // Into bit 1 comes 7; bits 1 .. 3 are cut behind bit 2.
    due("r1l3: the sum of bit 1", x.latest(2, 1), 10);
    due("r1l3: the sum of bit 2", x.latest(2, 2), 14);
    due("r1l3: the sum of bit 3", x.latest(2, 3), 14);
    due("r1l3: what comes out", x.latest(2, 4), 13);
  }

  private static void outcomes() throws IOException {
    says("OUTCOMES of a PLAN of WIDTH w: 0 .. w");
    AdderChooser x = Check.with("a=r1", "b=r6s6");
    due("0 of r1", x.latest(0, 0), 6);
    due("1 of r1", x.latest(0, 1), 7);
    due("2 of r1", x.latest(0, 2), -1);
    // r6: 3 and 4 a bit, 27; six bits more 51, and the OR of SKIP.
    due("12 of 12", x.latest(1, 12), 53);
    due("13 of 12", x.latest(1, 13), -1);
    due("-2 of 12", x.latest(1, -2), -1);
    // All are 0: each carry but the first by p at 3 and AND, OR; P at 5, AND of P, c at 7.
    due("12 of 12 settles", x.settles(1, 12, 0, 0, 0), 9);
    due("13 of 12 settles", x.settles(1, 13, 0, 0, 0), -1);
    due("-2 of 12 settles", x.settles(1, -2, 0, 0, 0), -1);
  }

  private static void used() throws IOException {
    says("USED are the OUTCOMES and all GATES of which one that is USED is made");
    AdderChooser x = Check.with("a=r6r6", "b=l6c6", "c=c1", "d=s6l1");
    for (int plan = 0; plan < 4; plan++) {
      int all = x.gates(plan, 0) + x.gates(plan, 1) + x.gates(plan, 2) + x.gates(plan, 3);
      due("all sorts of " + plan, x.gates(plan, -1), all);
    }
    due("r6r6: no input is counted", x.gates(0, -1), 60);
    due("r6r6: XOR", x.gates(0, 3), 24);
  }

  private static void comes() throws IOException {
    says("each other GATE its DELAY behind the later one of those of which it is made");
    AdderChooser x = Check.with("a=r6r6", "b=s1s1s1s1s1s1s1s5", "c=r1");
    for (int gate = 0; gate < 4; gate++) {
      x.delay(gate, 9);
    }
    x.arrival(0, 0, 99);
    // p(0) at 108; of RIPPLE each bit takes 18 more, of SKIP of one bit 27.
    due("the latest of 12 bits", x.latest(0, 12), 324);
    due("the last sum of 12 bits", x.latest(0, 11), 315);
    due("the latest of all", x.latest(1, -1), 396);
    for (int gate = 0; gate < 4; gate++) {
      x.delay(gate, 0);
    }
    due("no DELAY but when the input comes", x.latest(1, 12), 99);
    x.arrival(0, 0, 0);
    due("no DELAY, no ARRIVAL", x.latest(1, -1), 0);
    due("no DELAY, no ARRIVAL: settles", x.settles(1, -1, 4095, 1, 1), 0);
    due("no DELAY, no ARRIVAL: by 0", x.intime(2, 0), 8);
    due("no DELAY, no ARRIVAL: times", x.times(1), 1);
  }

  private static void latest() throws IOException {
    says("LATEST: the greatest of OUTCOMES'");
    AdderChooser x = Check.with("a=r1");
    due("what comes out", x.latest(0, -1), 7);
    x.delay(3, 9);
    due("the sum", x.latest(0, -1), 18);
    due("what comes out is ahead of it", x.latest(0, 1), 13);
  }

  private static void hangs() throws IOException {
    says("HANGS goes on by DELAY 0, too");
    AdderChooser x = Check.with("a=r1");
    for (int gate = 0; gate < 4; gate++) {
      x.delay(gate, 0);
    }
    due("all come at 0", x.hangs(0), A0 | B0 | CARRY_BIT);
    x.arrival(1, 0, 1);
    due("B alone", x.hangs(0), B0);
    says("It HANGS on: each OUTCOME that COMES then");
    x.arrival(1, 0, 0);
    x.delay(3, 9);
    due("the sum alone: not on CARRY", x.hangs(0), A0 | B0);
    x.arrival(2, 0, 8);
    due("CARRY one ahead", x.hangs(0), A0 | B0);
    x.arrival(2, 0, 9);
    due("CARRY as late", x.hangs(0), A0 | B0 | CARRY_BIT);
    x.arrival(2, 0, 10);
    due("CARRY one behind", x.hangs(0), CARRY_BIT);
  }

  private static void deep() throws IOException {
    says("DEEP counts the OUTCOME's GATE");
    AdderChooser x = Check.with("a=r1");
    due("OR, AND, XOR", x.deep(0), 3);
    for (int gate = 0; gate < 3; gate++) {
      x.delay(gate, 0);
    }
    x.delay(3, 9);
    due("from the sum alone, though what comes out is deeper", x.deep(0), 2);
    x.arrival(2, 0, 99);
    due("the OUTCOME alone", x.deep(0), 1);
    says("DEEP: the most GATES (no inputs, ZERO, ONE)");
    x.delay(3, 0);
    due("all OUTCOMES come with CARRY", x.deep(0), 2);
    x.arrival(2, 0, 0);
    due("no DELAY at all", x.deep(0), 3);
  }

  private static void numbers() throws IOException {
    says("For numbers a, b (as many bits as WIDTH) and c (0, 1)");
    AdderChooser x = Check.with("a=r1", "b=c3", "c=l6s6");
    int[] above = {2, 8, 4096};
    for (int plan = 0; plan < 3; plan++) {
      int all = above[plan] - 1;
      int[][] wrong = {{all + 1, 0, 0}, {0, all + 1, 0}, {0, 0, 2}, {-1, 0, 0}, {0, -1, 0}, {0, 0, -1}, {all + 2, 0, 0},
        {0, all + 2, 0}, {MAX, 0, 0}, {0, MAX, 0}, {0, 0, MAX}, {MIN, 0, 0}, {0, MIN, 0}, {0, 0, MIN}};
      for (int[] w : wrong) {
        String call = plan + ", " + w[0] + ", " + w[1] + ", " + w[2];
        due("adds " + call, x.adds(plan, w[0], w[1], w[2]), -1);
        due("settles " + call, x.settles(plan, 0, w[0], w[1], w[2]), -1);
      }
      due("adds the least " + plan, x.adds(plan, 0, 0, 0), 0);
      due("adds the greatest " + plan, x.adds(plan, all, all, 1), 2 * all + 1);
      due("a alone " + plan, x.adds(plan, all, 0, 0), all);
      due("b alone " + plan, x.adds(plan, 0, all, 0), all);
    }
  }

  private static void settles() throws IOException {
    says("of an AND of VALUE 0 its DELAY behind the earliest of those of VALUE 0 of which it is made");
    AdderChooser x = Check.with("a=r1", "b=s2");
    x.arrival(0, 0, 10);
    x.arrival(1, 0, 20);
    // g, and AND of p, c, and the OR of both.
    due("both are 0: by the earlier one", x.settles(0, 1, 0, 0, 0), 14);
    due("a is 0", x.settles(0, 1, 0, 1, 0), 14);
    due("b is 0", x.settles(0, 1, 1, 0, 0), 24);
    due("p is 0 and c is 1", x.settles(0, 1, 0, 0, 1), 27);
    due("both are 1: by the later one", x.settles(0, 1, 1, 1, 0), 24);
    due("the sum waits for both", x.settles(0, 0, 0, 0, 0), 26);
    says("of an OR of VALUE 1 its DELAY behind the earliest of those of VALUE 1");
    x.arrival(0, 0, 0);
    x.arrival(1, 0, 0);
    // s2: what comes out by RIPPLE at 11, AND of P, c at 7.
    due("both are 1: by the earlier one", x.settles(1, 2, 3, 0, 1), 9);
    // By RIPPLE at 7, AND of P, c by c at 2.
    due("both are 0: by the later one", x.settles(1, 2, 0, 0, 0), 9);
    due("it COMES later", x.latest(1, 2), 13);
    x.arrival(2, 0, 50);
    // g(1) is 1 at 2, the RIPPLE's OR at 4.
    due("one is 1: by that one", x.settles(1, 2, 2, 2, 0), 6);
    due("one is 1, the other late", x.settles(1, 2, 2, 2, 1), 6);
  }

  private static void settlesByParts() throws IOException {
    says("SETTLES goes by when those of which a GATE is made SETTLE (earliest, later one)");
    AdderChooser x = Check.with("a=r2", "b=c1");
    x.arrival(0, 0, 40);
    // B 0 is 0: g(0) by it at 2; c is 0: AND of p, c at 2; the carry into bit 1 at 4, though it COMES at 47.
    due("the sum of bit 1", x.settles(0, 1, 1, 0, 0), 7);
    due("the sum of bit 1 COMES", x.latest(0, 1), 50);
    due("what comes out, p(1) is 1", x.settles(0, 2, 3, 0, 0), 8);
    due("what comes out, p(1) is 0", x.settles(0, 2, 1, 0, 0), 7);
    // Of c1: p at 43, NOT p at 44; AND of p, NOT c by NOT c at 3; AND of NOT p, c by NOT p at 46.
    due("SELECT: p is 1, c is 1", x.settles(1, 0, 1, 0, 1), 48);
    // AND of NOT p, c by c at 2; AND of p, NOT c is 1 at 45.
    due("SELECT: p is 1, c is 0", x.settles(1, 0, 1, 0, 0), 47);
    // AND of NOT p, c is 1 at 46.
    due("SELECT: p is 0, c is 1", x.settles(1, 0, 0, 0, 1), 48);
    // AND of NOT p, c by c at 2; AND of p, NOT c by p at 45.
    due("SELECT: p is 0, c is 0", x.settles(1, 0, 0, 0, 0), 47);
  }

  // ---- 2: what is known ----

  private static void knownTwenty() throws IOException {
    says("the latest 20 that are unlike");
    AdderChooser x = Check.with("old=r1");
    x.gates(0, -1);
    for (int i = 0; i < 19; i++) {
      Check.read(x, "a=" + unlike(i));
      x.gates(1, -1);
      due("so many", x.count(1), i + 2);
    }
    due("the first of 20 is there", x.known(0), 1);
    Check.read(x, "a=" + unlike(19));
    due("the 21st is not there yet", x.known(1), 0);
    x.gates(1, -1);
    due("20 at most", x.count(1), 20);
    due("the first of 21 is gone", x.known(0), 0);
    due("the 21st is there", x.known(1), 1);
    Check.read(x, "a=" + unlike(0));
    due("the second of 21 is there", x.known(1), 1);
    x.gates(0, -1);
    due("asked again it is there, the second is gone", x.known(0) * 10 + x.known(1), 10);
    due("20 still", x.count(1), 20);
  }

  /** Twenty BLOCKS that are unlike, none of them r1. */
  private static String unlike(int i) {
    return "" + "scl".charAt(i % 3) + (i / 3 % 6 + 1) + (i < 18 ? "" : "r1");
  }

  private static void askedAgain() throws IOException {
    says("BLOCKS asked again are the latest then");
    AdderChooser x = Check.with("old=r1", "next=r2");
    x.gates(0, -1);
    x.gates(1, -1);
    for (int i = 0; i < 18; i++) {
      Check.read(x, "a=" + unlike(i));
      x.deep(2);
    }
    due("20", x.count(1), 20);
    x.latest(0, -1);
    due("20 still", x.count(1), 20);
    Check.read(x, "a=" + unlike(18));
    x.deep(2);
    due("the one asked again stays", x.known(0), 1);
    due("the oldest goes", x.known(1), 0);
    x.latest(0, -1);
    x.latest(0, -1);
    Check.read(x, "a=" + unlike(1));
    due("asking the latest again moves none out", x.known(2), 1);
    due("20 at last", x.count(1), 20);
  }

  private static void alikeBlocks() throws IOException {
    says("alike: as many BLOCKS, of the same KINDS and WIDTHS");
    AdderChooser x = Check.with("a=r1s1", "b=s1r1", "c=r2", "d=r1", "e=r1s1r1", "f=r1s1", "g=r1l1", "h=r1s2");
    x.gates(0, -1);
    int[] known = {1, 0, 0, 0, 0, 1, 0, 0};
    int[] alike = {2, 1, 1, 0, 0, 2, 1, 0};
    for (int plan = 0; plan < 8; plan++) {
      due("known " + plan, x.known(plan), known[plan]);
      due("alike " + plan, x.alike(0, plan), alike[plan]);
      due("alike, turned " + plan, x.alike(plan, 0), alike[plan]);
    }
    x.gates(5, -1);
    due("the same BLOCKS are known once", x.count(1), 1);
  }

  private static void knownNoMore() throws IOException {
    says("nothing is KNOWN any more when a DELAY, an ARRIVAL at least is told (also as it was)");
    AdderChooser x = Check.with("a=r1", "b=s1");
    for (int gate = 0; gate < 4; gate++) {
      x.gates(0, -1);
      x.deep(1);
      due("two", x.count(1), 2);
      x.delay(gate, -1);
      x.delay(gate, 10);
      due("two, as it is refused", x.count(1), 2);
      x.delay(gate, gate == 0 ? 1 : gate == 3 ? 3 : 2);
      due("none behind DELAY " + gate, x.count(1) + x.known(0) + x.known(1), 0);
    }
    for (int side = 0; side < 3; side++) {
      x.latest(0, -1);
      x.arrival(side, 0, -1);
      x.arrival(side, 0, 100);
      x.arrival(side, 12, 0);
      due("one, as it is refused", x.count(1), 1);
      x.arrival(side, 0, 0);
      due("none behind ARRIVAL " + side, x.count(1) + x.known(0), 0);
    }
    x.latest(0, -1);
    x.arrival(0, 11, 0);
    due("none behind ARRIVAL of a bit that no PLAN has", x.count(1), 0);
    says("with none told KNOWN stays");
    x.latest(0, -1);
    x.row(0, 1, 0);
    due("no items", x.from(0, 0), 0);
    due("no items: it stays", x.known(0), 1);
    x.row(0, 1, 3);
    x.put(0, 0, 100);
    due("the first is none", x.from(0, 1), 0);
    due("the first is none: it stays", x.known(0), 1);
    x.put(0, 0, 0);
    x.put(0, 1, -1);
    due("one is told", x.from(0, 1), 1);
    due("one is told, as it was: none is KNOWN", x.count(1), 0);
  }

  private static void makesNoneKnown() throws IOException {
    says("choose(), chosen(), into(), times(), hangs(), adds(), settles(), slowest(), intime(), shared() make none KNOWN");
    AdderChooser x = Check.with("a=r1", "b=r1s1");
    x.choose(1, 1, 999, 0);
    Check.feed(x, "c");
    x.chosen(1, 1, 999);
    x.row(0, 0, 5);
    x.into(0, 0);
    x.times(0);
    x.hangs(0);
    x.adds(0, 0, 0, 0);
    x.settles(0, -1, 0, 0, 0);
    x.slowest(0, 0);
    x.intime(0, 999);
    x.shared(0, 1);
    due("none", x.count(1) + x.known(0) + x.known(1) + x.known(2), 0);
    says("What is refused, and taken(), make nothing KNOWN");
    x.gates(0, -2);
    x.gates(0, 4);
    x.gates(3, 0);
    x.latest(0, -2);
    x.latest(0, 2);
    x.latest(-1, 0);
    x.deep(-1);
    x.deep(3);
    x.shelve(1, 0);
    x.taken(1, 0);
    x.taken(1, 1);
    x.taken(1, 2);
    due("none", x.count(1) + x.known(0), 0);
    x.gates(1, -1);
    x.gates(0, 4);
    x.latest(0, 2);
    due("one of two", x.known(0) * 10 + x.known(1), 1);
  }

  // ---- 3: carries ----

  private static void widthOfNumbers() throws IOException {
    says("CARRIES of a, b, c of w bits (1 .. 12)");
    AdderChooser x = new AdderChooser();
    for (int w : new int[] {0, 13, -1, 31, 32, 33, MIN, MAX}) {
      due("longest w " + w, x.longest(0, 0, 1, w, 0), -1);
      due("longest w " + w + ", its bit", x.longest(0, 0, 1, w, 1), -1);
      due("runs w " + w, x.runs(w, 0), Long.MIN_VALUE);
    }
    for (int w = 1; w <= 12; w++) {
      int all = (1 << w) - 1;
      due("all of " + w, x.longest(all, 0, 1, w, 0), w);
      due("all but bit 0 of " + w, x.longest(all, 1, 0, w, 0), w - 1);
      due("a above " + w, x.longest(all + 1, 0, 0, w, 0), -1);
      due("b above " + w, x.longest(0, all + 1, 0, w, 0), -1);
      due("all there are of " + w, x.runs(w, 12), 1L << 2 * w);
      due("of length " + (w - 1) + " at most", x.runs(w, w - 1), 1L << 2 * w);
    }
    // Just bit 0 with both 1, and one of each further bit.
    due("of length 10 at most", x.runs(12, 10), (1L << 24) - (1L << 11));
    due("of length 0, two bits", x.runs(2, 0), 14);
  }

  private static void runFromCarry() throws IOException {
    says("one that begins with c ends at once, if bit 0 has both 1, and another one begins");
    AdderChooser x = new AdderChooser();
    due("both, then one", x.longest(3, 1, 1, 2, 0), 1);
    due("both, then one: it begins with bit 0", x.longest(3, 1, 1, 2, 1), 0);
    due("both alone", x.longest(1, 1, 1, 1, 0), 0);
    due("both alone: bit 0", x.longest(1, 1, 1, 1, 1), 0);
    says("A RUN that begins with a carry begins with bit 0");
    due("c goes on through two", x.longest(3, 0, 1, 3, 0), 2);
    due("c goes on through two: bit 0", x.longest(3, 0, 1, 3, 1), 0);
    due("c ends at once by two zeros", x.longest(0, 0, 1, 1, 0), 0);
    due("c ends at once by two zeros: bit 0", x.longest(0, 0, 1, 1, 1), 0);
    due("a higher one of the same length", x.longest(4, 4, 1, 4, 1), 0);
    due("a higher one that is longer", x.longest(0b1100, 0b0100, 1, 4, 1), 2);
    due("a higher one that is longer: its length", x.longest(0b1100, 0b0100, 1, 4, 0), 1);
  }

  private static void runFromBothOne() throws IOException {
    says("A RUN's length is without the bit with which it begins");
    AdderChooser x = new AdderChooser();
    due("one bit with both", x.longest(1, 1, 0, 1, 0), 0);
    due("one bit more", x.longest(1, 3, 0, 2, 0), 1);
    due("the highest bit alone", x.longest(2048, 2048, 0, 12, 0), 0);
    due("the highest bit alone: where", x.longest(2048, 2048, 0, 12, 1), 11);
    due("all have both: the lowest", x.longest(4095, 4095, 0, 12, 1), 0);
    due("both again ends it", x.longest(0b1111, 0b0101, 0, 4, 0), 1);
    due("of two of one length the lowest", x.longest(0b1111, 0b0101, 0, 4, 1), 0);
    due("the second is longer", x.longest(0b11111, 0b00101, 0, 5, 0), 2);
    due("the second is longer: where", x.longest(0b11111, 0b00101, 0, 5, 1), 2);
  }

  private static void noRun() throws IOException {
    says("(0: there is no RUN, or each has length 0)");
    AdderChooser x = new AdderChooser();
    due("none", x.longest(0, 0, 0, 12, 0), 0);
    due("none: where", x.longest(0, 0, 0, 12, 1), -2);
    due("just one of each bit, no carry", x.longest(4095, 0, 0, 12, 0), 0);
    due("just one of each bit, no carry: where", x.longest(1365, 2730, 0, 12, 1), -2);
    due("each has length 0", x.longest(5, 5, 0, 4, 0), 0);
    due("each has length 0: where", x.longest(4, 4, 0, 4, 1), 2);
  }

  // ---- 4: the tape and the shelves ----

  private static void tapeHolds() throws IOException {
    says("THE TAPE holds 0 .. 40 bytes 32 .. 126");
    AdderChooser x = new AdderChooser();
    due("none at first", x.count(2), 0);
    int fed = 0;
    for (int letter = 32; letter <= 126; letter++) {
      due("feed(" + letter + ")", x.feed(letter), ++fed);
      if (fed == 40) {
        due("a 41st", x.feed(letter), -3);
        due("40 stay", x.count(2), 40);
        due("no text", x.read(), -100);
        fed = 0;
      }
    }
    for (int none : new int[] {31, 127, 0, -1, 128, 255, 256 + 32, MIN, MAX}) {
      due("feed(" + none + ")", x.feed(none), -1);
    }
    due("no more of them", x.count(2), fed);
  }

  private static void textHasNoBlanks() throws IOException {
    says("A TEXT (no blanks): a NAME, =, BLOCKS");
    AdderChooser x = new AdderChooser();
    String[] texts = {" a=r1", "a =r1", "a= r1", "a=r 1", "a=r1 ", "a=r1 s1", " ", "a=r6r6 "};
    int[] faults = {0, 1, 2, 3, 4, 4, 0, 6};
    for (int i = 0; i < texts.length; i++) {
      due("'" + texts[i] + "'", Check.read(x, texts[i]), -100 - faults[i]);
    }
    due("no PLAN", x.count(0), 0);
  }

  private static void faults() throws IOException {
    says("the first byte with which no such text goes on so");
    AdderChooser x = new AdderChooser();
    String[] texts = {"a=x1", "a=r0", "a=r7", "a=rr", "a=r1=", "a=r11", "a=r1r1x", "a==r1", "=r1", "1=r1", "ab1=r1", "a=1"};
    int[] its = {2, 3, 3, 3, 4, 4, 6, 2, 0, 0, 2, 2};
    for (int i = 0; i < texts.length; i++) {
      due(texts[i], Check.read(x, texts[i]), -100 - its[i]);
    }
    says("a fifth letter of a NAME, a ninth BLOCK, one where WIDTH is 12 already");
    due("a fifth letter", Check.read(x, "abcde"), -104);
    due("40 letters", Check.read(x, "a".repeat(40)), -104);
    due("a ninth BLOCK", Check.read(x, "abcd=r1r1r1r1r1r1r1r1s"), -121);
    due("40 bytes", Check.read(x, "a=" + "r1".repeat(19)), -118);
    due("one where WIDTH is 12", Check.read(x, "a=r6r6s"), -106);
    says("A letter where WIDTH is 12 already is the FAULT itself");
    due("with a good figure", Check.read(x, "a=r6r6s1"), -106);
    due("with a bad figure", Check.read(x, "a=r6r6s7"), -106);
    due("a letter where WIDTH is 11", Check.read(x, "a=r6r5s"), -107);
    says("a figure by which WIDTH would be above 12");
    due("11 and 1", Check.read(x, "a=r6r5s1"), 0);
    due("11 and 2", Check.read(x, "a=r6r5s2"), -107);
    due("6, 1 and 6", Check.read(x, "a=r6s1r6"), -107);
    due("6, 1 and 5", Check.read(x, "a=r6s1r5"), 0);
  }

  private static void endsTooEarly() throws IOException {
    says("or the length, if it ends too early");
    AdderChooser x = new AdderChooser();
    String[] texts = {"", "a", "ab", "abc", "abcd", "a=", "abcd=", "a=r", "a=r1s", "a=r1r1r1r1r1r1r1r"};
    for (String text : texts) {
      due("'" + text + "'", Check.read(x, text), -100 - text.length());
    }
    due("no PLAN", x.count(0), 0);
  }

  private static void faultAheadOfFull() throws IOException {
    says("A TEXT: FAULT comes ahead of FULL; a NAME that is there gets the new BLOCKS, it is no new one");
    AdderChooser x = new AdderChooser();
    for (int i = 0; i < 12; i++) {
      Check.read(x, (char) ('a' + i) + "=r1");
    }
    due("a FAULT", Check.read(x, "m=r"), -103);
    due("a FAULT behind a whole text", Check.read(x, "m=r1x"), -104);
    due("FULL", Check.read(x, "m=r1"), -3);
    due("FULL: the longest NAME", Check.read(x, "aaaa=r1"), -3);
    due("a NAME that is there", Check.read(x, "l=s2"), 11);
    due("a NAME that is there: its BLOCKS", x.plan(11, 0), 12);
    due("a NAME that is there and a FAULT", Check.read(x, "l=c"), -103);
    due("a NAME that is there and a FAULT: its BLOCKS stay", x.plan(11, 0), 12);
  }

  private static void tapeIsEmpty() throws IOException {
    says("THE TAPE is empty behind each call that reads it, by a FAULT and by all that is refused behind its text, too");
    AdderChooser x = Check.with("a=r1");
    due("a FAULT", Check.read(x, "b=r") + x.count(2), -103);
    for (int i = 1; i < 12; i++) {
      Check.read(x, (char) ('a' + i) + "=r1");
    }
    due("FULL by read()", Check.read(x, "z=r1") * 10 + x.count(2), -30);
    String[] tapes = {"z", "a", "z1", "", "zzzzz"};
    int[] found = {-2, 0, -2, -2, -2};
    int[] chosen = {-3, 0, -100, -100, -100};
    for (int i = 0; i < tapes.length; i++) {
      Check.feed(x, tapes[i]);
      due("find() of '" + tapes[i] + "'", x.find(), found[i]);
      due("find() of '" + tapes[i] + "': THE TAPE", x.count(2), 0);
      Check.feed(x, tapes[i]);
      due("chosen() by '" + tapes[i] + "'", x.chosen(1, 2, 999), chosen[i]);
      due("chosen() by '" + tapes[i] + "': THE TAPE", x.count(2), 0);
    }
    Check.feed(x, "z");
    due("chosen(): none is in time", x.chosen(1, 2, 0), -2);
    due("chosen(): none is in time: THE TAPE", x.count(2), 0);
    says("it stays just where that is said");
    Check.feed(x, "a");
    due("chosen(): BAD", x.chosen(0, 1, 999), -1);
    due("chosen(): BAD: THE TAPE", x.count(2), 1);
    due("feed(): BAD", x.feed(31) * 10 + x.count(2), -9);
    due("what was there goes on", x.feed('b') * 10 + x.find(), 18);
  }

  private static void firstOfSeveral() throws IOException {
    says("of several the first as the call's words name them");
    AdderChooser x = Check.with("a=r5");
    x.row(1, 0, 1);
    x.row(2, 1, 1);
    x.shelve(3, 0);
    due("slowest(): what, then LONG", x.slowest(0, 4) * 10 + x.slowest(0, 3), -17);
    due("intime(): t, then LONG", x.intime(0, 1000) * 10 + x.intime(0, 999), -17);
    due("plan(): what below -2, then no such BLOCK", x.plan(0, -3) * 10 + x.plan(0, 1), -12);
    due("name(): i below -1, then no such letter", x.name(0, -2) * 10 + x.name(0, 1), -12);
    due("choose(): what, then none in time", x.choose(1, 1, 0, 9) * 10 + x.choose(1, 1, 0, 10), -12);
    due("row(): sort, then the size", x.row(0, 2, -1) * 100 + x.row(0, 1, -1), -114);
    due("taken(): what, then nothing", x.taken(0, 3) * 100 + x.taken(0, 2), -111);
    due("taken(): what, then another sort", x.taken(1, 3) * 100 + x.taken(1, 2), -112);
    due("put(): SHELF, then nothing", x.put(4, -1, 0) * 100 + x.put(0, -1, 0), -111);
    due("put(): BLOCKS, then the place", x.put(3, -1, 0) * 100 + x.put(1, -1, 0), -1213);
    due("into(): PLAN, then nothing", x.into(0, 1) * 100 + x.into(0, 0), -111);
    due("into(): PLAN, then another sort", x.into(2, 1) * 100 + x.into(2, 0), -112);
    due("from(): side, then nothing", x.from(0, 2) * 100 + x.from(0, 1), -111);
    due("from(): side, then another sort", x.from(1, 2) * 100 + x.from(1, 1), -112);
    says("LONG (-7): WIDTH is above what is told");
    due("5 bits", x.slowest(0, 0), -7);
    due("4 bits", Check.read(x, "a=r4") * 100 + x.slowest(0, 0), 19);
    due("5 bits in two BLOCKS", Check.read(x, "a=r4s1") * 100 + x.intime(0, 0), -7);
    says("read(): the FAULT is looked at first, then FULL");
    for (int i = 1; i < 12; i++) {
      Check.read(x, (char) ('a' + i) + "=r1");
    }
    due("a FAULT where it is FULL", Check.read(x, "z=") * 10 + x.count(2), -1020);
    due("FULL", Check.read(x, "z=r1") * 10 + x.count(2), -30);
  }

  private static void shelvesAtFirst() throws IOException {
    says("SHELVES 0 .. 3 hold nothing (at first), BLOCKS, a row of 0 longs, 1 bytes (0 .. 20 items, 0 at first)");
    AdderChooser x = Check.with("a=r1");
    for (int shelf = 0; shelf < 4; shelf++) {
      due("nothing on " + shelf, x.taken(shelf, 0), -11);
      for (int sort = 0; sort < 2; sort++) {
        due("no items", x.row(shelf, sort, 0), 1);
        due("no items: none to get", x.get(shelf, 0), Long.MIN_VALUE);
        due("no items: none to put", x.put(shelf, 0, 1), -13);
        due("20 items", x.row(shelf, sort, 20), 1);
        for (int i = 0; i < 20; i += 19) {
          due("item " + i + " at first", x.get(shelf, i), 0);
          due("put item " + i, x.put(shelf, i, 7), 1);
        }
        due("no 21st to get", x.get(shelf, 20), Long.MIN_VALUE);
        due("no 21st to put", x.put(shelf, 20, 1), -13);
        due("21 items", x.row(shelf, sort, 21), -1);
        due("the 20 stay", x.get(shelf, 19), 7);
      }
    }
    for (int none : new int[] {-1, 4, MIN, MAX}) {
      due("no shelf " + none, x.row(none, 0, 1) + x.put(none, 0, 1) + x.taken(none, 0) + x.shelve(none, 0), -4);
      due("no shelf to get " + none, x.get(none, 0), Long.MIN_VALUE);
    }
  }

  private static void shelfSorts() throws IOException {
    says("Of SHELVES: -11 nothing is there, -12 it is of another sort, -13 a place outside, -14 a size below 0");
    AdderChooser x = Check.with("a=r1");
    x.row(1, 0, 2);
    x.row(2, 1, 2);
    x.shelve(3, 0);
    int[] taken = {-11, -12, -12, 1};
    int[] put = {-11, 1, 1, -12};
    int[] outside = {-11, -13, -13, -12};
    int[] into = {-11, 2, -12, -12};
    int[] from = {-11, -12, 2, -12};
    for (int shelf = 0; shelf < 4; shelf++) {
      due("taken " + shelf, x.taken(shelf, 0), taken[shelf]);
      due("put " + shelf, x.put(shelf, 1, 5), put[shelf]);
      due("put outside " + shelf, x.put(shelf, 2, 5), outside[shelf]);
      due("put below " + shelf, x.put(shelf, -1, 5), outside[shelf]);
      due("into " + shelf, x.into(shelf, 0), into[shelf]);
      due("from " + shelf, x.from(shelf, 1), from[shelf]);
      due("row below 0 " + shelf, x.row(shelf, 0, -1), -14);
      due("row far below 0 " + shelf, x.row(shelf, 1, MIN), -14);
      due("taken still " + shelf, x.taken(shelf, 0), taken[shelf]);
    }
  }

  private static void bytesHaveASign() throws IOException {
    says("Bytes have a sign (200 is -56)");
    AdderChooser x = new AdderChooser();
    x.row(0, 1, 1);
    x.row(1, 0, 1);
    long[] told = {200, 127, 128, 129, 255, 256, 257, -1, -128, -129, -256, 1L << 32 | 99, Long.MAX_VALUE, Long.MIN_VALUE};
    long[] byteOf = {-56, 127, -128, -127, -1, 0, 1, -1, -128, 127, 0, 99, -1, 0};
    for (int i = 0; i < told.length; i++) {
      due("put a byte " + told[i], x.put(0, 0, told[i]), 1);
      due("the byte of " + told[i], x.get(0, 0), byteOf[i]);
      due("put a long " + told[i], x.put(1, 0, told[i]), 1);
      due("the long " + told[i], x.get(1, 0), told[i]);
    }
  }

  private static void shelfKeepsBlocks() throws IOException {
    says("forget() leaves KNOWN and SHELVES as they are; a SHELF holds the BLOCKS as they were when shelved");
    AdderChooser x = Check.with("a=s2c1", "b=r4");
    x.deep(0);
    x.shelve(0, 0);
    x.row(1, 0, 3);
    x.put(1, 2, 9);
    Check.read(x, "a=l5");
    due("the WIDTH as it was", x.taken(0, 0), 3);
    due("none has these now", x.taken(0, 2), 0);
    due("they are KNOWN", x.taken(0, 1), 1);
    x.forget(0);
    x.forget(0);
    due("no PLANS", x.count(0), 0);
    due("the WIDTH still", x.taken(0, 0), 3);
    due("KNOWN still", x.taken(0, 1) * 10 + x.count(1), 11);
    due("the row still", x.get(1, 2), 9);
    due("two hold something", x.count(3), 2);
    Check.read(x, "c=s2c1");
    due("known again by its BLOCKS", x.known(0) * 10 + x.taken(0, 2), 11);
  }
}
