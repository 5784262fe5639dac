import java.io.IOException;
import java.util.function.ToLongFunction;

/** What is refused changes nothing but where it is told: all that can be asked is asked ahead of each refusal and behind it. */
public final class RefusalsTest {
  private static final int MIN = Integer.MIN_VALUE, MAX = Integer.MAX_VALUE;
  private static final long VOID = Long.MIN_VALUE;
  private static final int PLANS = 3;
  private static final Check CHECK = new Check();

  public static void main(String[] args) throws IOException {
    CHECK.says("ANSWERS that are refusals (nothing changes but where it is told)");
    ofTheTapeAndPlans();
    ofTimes();
    ofNets();
    ofNumbers();
    ofChoosing();
    ofShelves();
    ofRows();
    CHECK.says("find() empties THE TAPE whatever it answers");
    thatEmptyTheTape();
    fullTape();
    fullPlans();
    CHECK.end();
  }

  /** Three PLANS, one of them known; times of its own; shelves: nothing, BLOCKS, longs, bytes; a NAME on the tape. */
  private static AdderChooser filled() {
    AdderChooser x = Check.with("a=r1", "b=c2s1", "w=l5");
    x.delay(1, 3);
    x.delay(0, 4);
    x.arrival(0, 1, 7);
    x.arrival(1, 0, 5);
    x.arrival(2, 0, 2);
    x.gates(1, -1);
    x.shelve(1, 1);
    x.row(2, 0, 3);
    x.put(2, 0, 200);
    x.put(2, 2, -5);
    x.row(3, 1, 2);
    x.put(3, 1, 200);
    Check.feed(x, "b");
    return x;
  }

  /** All that can be asked without a change, but for what stands on the tape. */
  private static String state(AdderChooser x) {
    StringBuilder state = new StringBuilder();
    for (int what = 0; what <= 5; what++) {
      state.append(what == 2 ? 0 : x.count(what)).append(' ');
    }
    for (int plan = 0; plan < PLANS; plan++) {
      for (int what = -2; what <= 2; what++) {
        state.append(x.plan(plan, what)).append(' ');
      }
      state.append(x.name(plan, -1)).append(x.name(plan, 0)).append(x.known(plan)).append(' ');
      // Times hang on each DELAY: the outcomes of SELECT on that of NOT, too.
      state.append(x.settles(plan, 0, 0, 0, 1)).append(' ').append(x.settles(plan, -1, 1, 1, 1)).append(' ');
      state.append(x.hangs(plan)).append(' ').append(x.times(plan)).append(' ');
    }
    for (int place = 0; place < 12; place++) {
      state.append(x.arrives(0, place)).append(x.arrives(1, place)).append(' ');
    }
    state.append(x.arrives(2, 0)).append(' ');
    for (int shelf = 0; shelf < 4; shelf++) {
      state.append(x.taken(shelf, 0)).append(x.taken(shelf, 1)).append(x.put(shelf, -1, 0)).append(' ');
      for (int i = 0; i < 4; i++) {
        state.append(x.get(shelf, i)).append(' ');
      }
    }
    return state.toString();
  }

  private static void refused(String call, long answer, ToLongFunction<AdderChooser> asked) {
    AdderChooser x = filled();
    String before = state(x);
    CHECK.due(call, asked.applyAsLong(x), answer);
    CHECK.isTrue(call + ": the same behind it", state(x).equals(before));
    CHECK.due(call + ": the bytes of THE TAPE", x.count(2), 1);
    CHECK.due(call + ": what THE TAPE tells", x.find(), 1);
  }

  private static void refusedBehindTheText(String call, long answer, String text, ToLongFunction<AdderChooser> asked) {
    AdderChooser x = filled();
    x.find();
    Check.feed(x, text);
    String before = state(x);
    CHECK.due(call, asked.applyAsLong(x), answer);
    CHECK.isTrue(call + ": the same behind it", state(x).equals(before));
    CHECK.due(call + ": the bytes of THE TAPE", x.count(2), 0);
  }

  private static void ofTheTapeAndPlans() {
    for (int letter : new int[] {31, 127, -1, MIN, MAX}) {
      refused("feed(" + letter + ")", -1, x -> x.feed(letter));
    }
    for (int plan : new int[] {-1, PLANS, 12, MIN, MAX}) {
      refused("forget(" + plan + ")", -1, x -> x.forget(plan));
      refused("plan(" + plan + ", 0)", -1, x -> x.plan(plan, 0));
      refused("name(" + plan + ", 0)", -1, x -> x.name(plan, 0));
      refused("known(" + plan + ")", -1, x -> x.known(plan));
      refused("alike(0, " + plan + ")", -1, x -> x.alike(0, plan));
      refused("alike(" + plan + ", 0)", -1, x -> x.alike(plan, 0));
      refused("shared(0, " + plan + ")", -1, x -> x.shared(0, plan));
      refused("shared(" + plan + ", 0)", -1, x -> x.shared(plan, 0));
    }
    refused("plan(0, -3)", -1, x -> x.plan(0, -3));
    refused("plan(0, 1)", -2, x -> x.plan(0, 1));
    refused("name(0, -2)", -1, x -> x.name(0, -2));
    refused("name(0, 1)", -2, x -> x.name(0, 1));
    refused("count(-1)", -1, x -> x.count(-1));
    refused("count(6)", -1, x -> x.count(6));
  }

  private static void ofTimes() {
    int[][] delays = {{-1, 1}, {4, 1}, {0, -1}, {3, 10}, {MIN, MIN}, {MAX, MAX}};
    for (int[] d : delays) {
      refused("delay(" + d[0] + ", " + d[1] + ")", -1, x -> x.delay(d[0], d[1]));
    }
    int[][] arrivals = {{-1, 0, 1}, {3, 0, 1}, {0, -1, 1}, {0, 12, 1}, {1, -1, 1}, {1, 12, 1}, {2, -1, 1}, {2, 1, 1}, {0, 0, -1},
      {1, 0, 100}, {2, 0, 100}, {MIN, MIN, MIN}, {MAX, MAX, MAX}};
    for (int[] a : arrivals) {
      refused("arrival(" + a[0] + ", " + a[1] + ", " + a[2] + ")", -1, x -> x.arrival(a[0], a[1], a[2]));
      if (a[2] == 1) {
        refused("arrives(" + a[0] + ", " + a[1] + ")", -1, x -> x.arrives(a[0], a[1]));
      }
    }
  }

  private static void ofNets() {
    for (int plan : new int[] {-1, PLANS, MIN, MAX}) {
      refused("gates(" + plan + ", -1)", -1, x -> x.gates(plan, -1));
      refused("latest(" + plan + ", -1)", -1, x -> x.latest(plan, -1));
      refused("deep(" + plan + ")", -1, x -> x.deep(plan));
      refused("hangs(" + plan + ")", -1, x -> x.hangs(plan));
      refused("times(" + plan + ")", -1, x -> x.times(plan));
      refused("adds(" + plan + ", 0, 0, 0)", -1, x -> x.adds(plan, 0, 0, 0));
      refused("settles(" + plan + ", 0, 0, 0, 0)", -1, x -> x.settles(plan, 0, 0, 0, 0));
      refused("slowest(" + plan + ", 0)", -1, x -> x.slowest(plan, 0));
      refused("intime(" + plan + ", 0)", -1, x -> x.intime(plan, 0));
    }
    for (int wrong : new int[] {-2, 4, MIN, MAX}) {
      refused("gates(0, " + wrong + ")", -1, x -> x.gates(0, wrong));
      refused("latest(1, " + wrong + ")", -1, x -> x.latest(1, wrong));
      refused("settles(1, " + wrong + ", 0, 0, 0)", -1, x -> x.settles(1, wrong, 0, 0, 0));
      refused("slowest(0, " + wrong + ")", -1, x -> x.slowest(0, wrong));
    }
    refused("slowest(0, -1)", -1, x -> x.slowest(0, -1));
    refused("slowest(2, 4)", -1, x -> x.slowest(2, 4));
    refused("slowest(2, 0)", -7, x -> x.slowest(2, 0));
    refused("intime(0, -1)", -1, x -> x.intime(0, -1));
    refused("intime(2, 1000)", -1, x -> x.intime(2, 1000));
    refused("intime(2, 0)", -7, x -> x.intime(2, 0));
  }

  private static void ofNumbers() {
    int[][] wrong = {{2, 0, 0}, {0, 2, 0}, {0, 0, 2}, {-1, 0, 0}, {0, -1, 0}, {0, 0, -1}, {MIN, 0, 0}, {0, MAX, 0}};
    for (int[] w : wrong) {
      String rest = w[0] + ", " + w[1] + ", " + w[2];
      refused("adds(0, " + rest + ")", -1, x -> x.adds(0, w[0], w[1], w[2]));
      refused("settles(0, 0, " + rest + ")", -1, x -> x.settles(0, 0, w[0], w[1], w[2]));
      refused("longest(" + rest + ", 1, 0)", -1, x -> x.longest(w[0], w[1], w[2], 1, 0));
    }
    for (int w : new int[] {-1, 0, 13, MIN, MAX}) {
      refused("longest(0, 0, 0, " + w + ", 0)", -1, x -> x.longest(0, 0, 0, w, 0));
      refused("runs(" + w + ", 0)", VOID, x -> x.runs(w, 0));
    }
    for (int n : new int[] {-1, 13, MIN, MAX}) {
      refused("runs(1, " + n + ")", VOID, x -> x.runs(1, n));
      refused("longest(0, 0, 0, 1, " + n + ")", -1, x -> x.longest(0, 0, 0, 1, n));
    }
    refused("longest(0, 0, 0, 1, 1)", -2, x -> x.longest(0, 0, 0, 1, 1));
  }

  private static void ofChoosing() {
    int[][] wrong = {{0, 1, 9}, {7, 1, 9}, {1, 0, 9}, {1, 7, 9}, {1, 16, 9}, {1, -1, 9}, {1, 1, -1}, {1, 1, 1000}, {MIN, MIN, MIN},
      {MAX, MAX, MAX}};
    for (int[] w : wrong) {
      String told = w[0] + ", " + w[1] + ", " + w[2];
      refused("choose(" + told + ", 0)", -1, x -> x.choose(w[0], w[1], w[2], 0));
      refused("chosen(" + told + ")", -1, x -> x.chosen(w[0], w[1], w[2]));
    }
    for (int what : new int[] {-1, 3, 9, MIN}) {
      refused("choose(1, 1, 999, " + what + ")", -1, x -> x.choose(1, 1, 999, what));
    }
    for (int what : new int[] {0, 1, 10, MAX}) {
      refused("choose(1, 1, 0, " + what + ")", -2, x -> x.choose(1, 1, 0, what));
    }
    refused("choose(1, 1, 999, 11)", -2, x -> x.choose(1, 1, 999, 11));
  }

  private static void ofShelves() {
    for (int shelf : new int[] {-1, 4, MIN, MAX}) {
      refused("shelve(" + shelf + ", 0)", -1, x -> x.shelve(shelf, 0));
      refused("shelve(" + shelf + ", -1)", -1, x -> x.shelve(shelf, -1));
      refused("taken(" + shelf + ", 0)", -1, x -> x.taken(shelf, 0));
      refused("row(" + shelf + ", 0, 1)", -1, x -> x.row(shelf, 0, 1));
      refused("row(" + shelf + ", 0, -1)", -1, x -> x.row(shelf, 0, -1));
      refused("put(" + shelf + ", 0, 1)", -1, x -> x.put(shelf, 0, 1));
      refused("get(" + shelf + ", 0)", VOID, x -> x.get(shelf, 0));
      refused("into(" + shelf + ", 0)", -1, x -> x.into(shelf, 0));
      refused("from(" + shelf + ", 0)", -1, x -> x.from(shelf, 0));
    }
    for (int shelf = 0; shelf < 4; shelf++) {
      int on = shelf;
      refused("shelve(" + on + ", -2)", -1, x -> x.shelve(on, -2));
      refused("shelve(" + on + ", 3)", -1, x -> x.shelve(on, PLANS));
      refused("taken(" + on + ", -1)", -1, x -> x.taken(on, -1));
      refused("taken(" + on + ", 3)", -1, x -> x.taken(on, 3));
      refused("row(" + on + ", -1, 1)", -1, x -> x.row(on, -1, 1));
      refused("row(" + on + ", 2, 1)", -1, x -> x.row(on, 2, 1));
      refused("row(" + on + ", 0, 21)", -1, x -> x.row(on, 0, 21));
      refused("row(" + on + ", 2, -1)", -1, x -> x.row(on, 2, -1));
      refused("row(" + on + ", 0, -1)", -14, x -> x.row(on, 0, -1));
      refused("row(" + on + ", 1, MIN)", -14, x -> x.row(on, 1, MIN));
      refused("into(" + on + ", 3)", -1, x -> x.into(on, PLANS));
      refused("into(" + on + ", -1)", -1, x -> x.into(on, -1));
      refused("from(" + on + ", 2)", -1, x -> x.from(on, 2));
      refused("from(" + on + ", -1)", -1, x -> x.from(on, -1));
    }
  }

  private static void ofRows() {
    refused("put(0, 0, 1)", -11, x -> x.put(0, 0, 1));
    refused("put(1, 0, 1)", -12, x -> x.put(1, 0, 1));
    refused("put(2, 3, 1)", -13, x -> x.put(2, 3, 1));
    refused("put(3, 2, 1)", -13, x -> x.put(3, 2, 1));
    refused("put(3, -1, 1)", -13, x -> x.put(3, -1, 1));
    refused("put(2, MIN, 1)", -13, x -> x.put(2, MIN, 1));
    refused("get(0, 0)", VOID, x -> x.get(0, 0));
    refused("get(1, 0)", VOID, x -> x.get(1, 0));
    refused("get(2, 3)", VOID, x -> x.get(2, 3));
    refused("get(3, -1)", VOID, x -> x.get(3, -1));
    refused("taken(0, 0)", -11, x -> x.taken(0, 0));
    refused("taken(2, 0)", -12, x -> x.taken(2, 0));
    refused("taken(3, 2)", -12, x -> x.taken(3, 2));
    refused("into(0, 0)", -11, x -> x.into(0, 0));
    refused("into(1, 0)", -12, x -> x.into(1, 0));
    refused("into(3, 0)", -12, x -> x.into(3, 0));
    refused("from(0, 0)", -11, x -> x.from(0, 0));
    refused("from(1, 0)", -12, x -> x.from(1, 0));
    refused("from(2, 0)", -12, x -> x.from(2, 0));
  }

  private static void thatEmptyTheTape() {
    refusedBehindTheText("read() of nothing", -100, "", x -> x.read());
    refusedBehindTheText("read() of a NAME", -101, "b", x -> x.read());
    refusedBehindTheText("read() of a FAULT at the end", -105, "b=r1r", x -> x.read());
    refusedBehindTheText("read() of a ninth BLOCK", -118, "b=r1r1r1r1r1r1r1r1r1", x -> x.read());
    refusedBehindTheText("find() of nothing", -2, "", x -> x.find());
    refusedBehindTheText("find() of another NAME", -2, "c", x -> x.find());
    refusedBehindTheText("find() of no NAME", -2, "b=r1", x -> x.find());
    refusedBehindTheText("chosen() by nothing", -100, "", x -> x.chosen(1, 1, 999));
    refusedBehindTheText("chosen() by no NAME", -100, "b1", x -> x.chosen(1, 1, 999));
    refusedBehindTheText("chosen() with none in time", -2, "b", x -> x.chosen(1, 1, 0));
  }

  private static void fullTape() {
    AdderChooser x = filled();
    for (int many = 2; many <= 40; many++) {
      x.feed('b');
    }
    String before = state(x);
    CHECK.due("feed() on a full TAPE", x.feed('b'), -3);
    CHECK.isTrue("feed() on a full TAPE: the same behind it", state(x).equals(before));
    CHECK.due("feed() on a full TAPE: its bytes", x.count(2), 40);
    CHECK.due("feed() on a full TAPE: a fifth letter", x.read(), -104);
  }

  private static void fullPlans() {
    AdderChooser x = filled();
    x.find();
    for (int i = PLANS; i < 12; i++) {
      Check.read(x, "z" + (char) ('a' + i) + "=r1");
    }
    String before = state(x);
    CHECK.due("read() of a 13th", Check.read(x, "y=l6"), -3);
    CHECK.isTrue("read() of a 13th: the same behind it", state(x).equals(before));
    Check.feed(x, "y");
    CHECK.due("chosen() of a 13th", x.chosen(1, 1, 999), -3);
    CHECK.isTrue("chosen() of a 13th: the same behind it", state(x).equals(before));
    CHECK.due("THE TAPE is empty", x.count(2), 0);
    CHECK.due("the last PLAN stays", x.name(11, 1) * 10 + x.plan(11, 0), ('a' + 11) * 10 + 1);
  }
}
