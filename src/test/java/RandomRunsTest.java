import java.util.Random;

/** Long runs of calls, the same each time, on the class and on the model beside it. */
public final class RandomRunsTest {
  private static final int CALLS = 512;
  private static final int[] ODD = {Integer.MIN_VALUE, Integer.MAX_VALUE, -3, -2, -1, 12, 13, 20, 21, 99, 100, 999, 1000};

  private final Random random;
  private final AdderChooser x = new AdderChooser();
  private final Model model = new Model();
  private final Check check;
  private final String run;
  private int calls;

  private RandomRunsTest(int seed, Check check) {
    random = new Random(seed);
    run = "run " + seed + ", call ";
    this.check = check;
  }

  public static void main(String[] args) {
    int runs = args.length > 0 ? Integer.parseInt(args[0]) : 1200;
    int first = args.length > 1 ? Integer.parseInt(args[1]) : 0;
    Check check = new Check();
    for (int seed = first; seed < first + runs && check.wrong() < 20; seed++) {
      new RandomRunsTest(seed, check).go();
    }
    check.end();
  }

  private void go() {
    int before = check.wrong();
    // Some runs ask few of the dear calls, so that the cheap ones meet more often.
    while (calls < CALLS - 45 && check.wrong() == before) {
      step();
    }
  }

  private void step() {
    switch (random.nextInt(12)) {
      case 0:
      case 1:
      case 2:
        text();
        break;
      case 3:
        times();
        break;
      case 4:
      case 5:
        shelves();
        break;
      case 6:
        carries();
        break;
      case 7:
        dear();
        break;
      default:
        plans();
        break;
    }
  }

  private void due(String call, long got, long want) {
    calls++;
    check.due(run + calls + ", " + call, got, want);
  }

  /** Mostly low to high, at times a number beyond them. */
  private int pick(int low, int high) {
    switch (random.nextInt(24)) {
      case 0:
        return ODD[random.nextInt(ODD.length)];
      case 1:
        return low - 1;
      case 2:
        return high + 1;
      default:
        return low + random.nextInt(high - low + 1);
    }
  }

  private int pickPlan() {
    return pick(0, Math.max(0, x.count(0) - 1) + countsAsCall());
  }

  private int countsAsCall() {
    calls++;
    return 0;
  }

  private String name() {
    String few = random.nextInt(4) == 0 ? "abcdefghijklmnopqrstuvwxyz" : "abc";
    StringBuilder name = new StringBuilder();
    int letters = 1 + random.nextInt(random.nextInt(3) == 0 ? 4 : 2);
    for (int i = 0; i < letters; i++) {
      name.append(few.charAt(random.nextInt(few.length())));
    }
    return name.toString();
  }

  private String blocks() {
    StringBuilder blocks = new StringBuilder();
    int most = 1 + random.nextInt(random.nextInt(3) == 0 ? 12 : 4);
    int width = 0;
    for (int i = 0; i < 8 && width < most; i++) {
      int figure = 1 + random.nextInt(Math.min(6, most - width));
      blocks.append("rscl".charAt(random.nextInt(4))).append(figure);
      width += figure;
    }
    return blocks.toString();
  }

  private void feed(String text) {
    for (int i = 0; i < text.length() && calls < CALLS - 4; i++) {
      due("feed(" + (int) text.charAt(i) + ")", x.feed(text.charAt(i)), model.feed(text.charAt(i)));
    }
  }

  private void text() {
    String text = name() + "=" + blocks();
    switch (random.nextInt(10)) {
      case 0:
        int at = random.nextInt(text.length());
        String signs = "rscl123456=a 07{`@~";
        feed(text.substring(0, at) + signs.charAt(random.nextInt(signs.length())) + text.substring(at));
        due("read()", x.read(), model.read());
        break;
      case 1:
        feed(text.substring(0, random.nextInt(text.length())));
        due("read()", x.read(), model.read());
        break;
      case 2:
        feed(name());
        due("find()", x.find(), model.find());
        break;
      case 3:
        feed(text);
        due("find()", x.find(), model.find());
        break;
      case 4:
        int letter = random.nextInt(3) == 0 ? ODD[random.nextInt(ODD.length)] : 28 + random.nextInt(102);
        due("feed(" + letter + ")", x.feed(letter), model.feed(letter));
        break;
      default:
        feed(text);
        due("read()", x.read(), model.read());
        break;
    }
    due("count(2)", x.count(2), model.count(2));
  }

  private void times() {
    int side = pick(0, 2);
    int place = side == 2 && random.nextInt(4) > 0 ? 0 : pick(0, 11);
    int v = random.nextInt(3) == 0 ? pick(0, 99) : random.nextInt(8);
    switch (random.nextInt(4)) {
      case 0:
        int gate = pick(0, 3);
        int delay = pick(0, 9);
        due("delay(" + gate + ", " + delay + ")", x.delay(gate, delay), model.delay(gate, delay));
        break;
      case 1:
        due("arrives(" + side + ", " + place + ")", x.arrives(side, place), model.arrives(side, place));
        break;
      default:
        due("arrival(" + side + ", " + place + ", " + v + ")", x.arrival(side, place, v), model.arrival(side, place, v));
        break;
    }
  }

  private void plans() {
    int plan = pickPlan();
    int other = pickPlan();
    int width = Math.max(1, model.plan(plan, -1));
    String one = "(" + plan + ")";
    switch (random.nextInt(14)) {
      case 0:
        if (random.nextInt(3) == 0) {
          due("forget" + one, x.forget(plan), model.forget(plan));
        }
        break;
      case 1:
        int what = pick(-2, 7);
        due("plan(" + plan + ", " + what + ")", x.plan(plan, what), model.plan(plan, what));
        break;
      case 2:
        int i = pick(-1, 3);
        due("name(" + plan + ", " + i + ")", x.name(plan, i), model.name(plan, i));
        break;
      case 3:
        int gate = pick(-1, 3);
        due("gates(" + plan + ", " + gate + ")", x.gates(plan, gate), model.gates(plan, gate));
        break;
      case 4:
        int outcome = pick(-1, width);
        due("latest(" + plan + ", " + outcome + ")", x.latest(plan, outcome), model.latest(plan, outcome));
        break;
      case 5:
        due("deep" + one, x.deep(plan), model.deep(plan));
        break;
      case 6:
        due("hangs" + one, x.hangs(plan), model.hangs(plan));
        break;
      case 7:
        due("times" + one, x.times(plan), model.times(plan));
        break;
      case 8:
      case 9:
        numbers(plan, width);
        break;
      case 10:
        due("shared(" + plan + ", " + other + ")", x.shared(plan, other), model.shared(plan, other));
        break;
      case 11:
        due("alike(" + plan + ", " + other + ")", x.alike(plan, other), model.alike(plan, other));
        break;
      case 12:
        due("known" + one, x.known(plan), model.known(plan));
        break;
      default:
        int counted = pick(0, 5);
        due("count(" + counted + ")", x.count(counted), model.count(counted));
        break;
    }
  }

  private void numbers(int plan, int width) {
    int a = pick(0, (1 << width) - 1);
    int b = random.nextInt(4) == 0 ? (1 << width) - 1 - a : pick(0, (1 << width) - 1);
    int c = pick(0, 1);
    int outcome = pick(-1, width);
    String rest = a + ", " + b + ", " + c + ")";
    due("adds(" + plan + ", " + rest, x.adds(plan, a, b, c), model.adds(plan, a, b, c));
    due("settles(" + plan + ", " + outcome + ", " + rest, x.settles(plan, outcome, a, b, c),
        model.settles(plan, outcome, a, b, c));
  }

  private void carries() {
    int w = pick(1, 12);
    int above = 1 << Math.max(1, Math.min(12, w));
    int a = pick(0, above - 1);
    int b = random.nextBoolean() ? pick(0, above - 1) : (above - 1 ^ a) | 1 << random.nextInt(12) & above - 1;
    int c = pick(0, 1);
    int what = pick(0, 1);
    due("longest(" + a + ", " + b + ", " + c + ", " + w + ", " + what + ")", x.longest(a, b, c, w, what),
        model.longest(a, b, c, w, what));
    if (w < 5 || w > 12) {
      int n = pick(0, 12);
      due("runs(" + w + ", " + n + ")", x.runs(w, n), model.runs(w, n));
    }
  }

  private void shelves() {
    int shelf = pick(0, 3);
    switch (random.nextInt(8)) {
      case 0:
        int plan = random.nextInt(4) == 0 ? -1 : pickPlan();
        due("shelve(" + shelf + ", " + plan + ")", x.shelve(shelf, plan), model.shelve(shelf, plan));
        break;
      case 1:
        int what = pick(0, 2);
        due("taken(" + shelf + ", " + what + ")", x.taken(shelf, what), model.taken(shelf, what));
        break;
      case 2:
        int sort = pick(0, 1);
        int n = pick(0, 20);
        due("row(" + shelf + ", " + sort + ", " + n + ")", x.row(shelf, sort, n), model.row(shelf, sort, n));
        break;
      case 3:
        int of = pickPlan();
        due("into(" + shelf + ", " + of + ")", x.into(shelf, of), model.into(shelf, of));
        break;
      case 4:
        int side = pick(0, 1);
        due("from(" + shelf + ", " + side + ")", x.from(shelf, side), model.from(shelf, side));
        break;
      default:
        int i = pick(0, random.nextBoolean() ? 3 : 19);
        long v = random.nextInt(3) == 0 ? random.nextLong() : random.nextInt(110);
        due("put(" + shelf + ", " + i + ", " + v + ")", x.put(shelf, i, v), model.put(shelf, i, v));
        due("get(" + shelf + ", " + i + ")", x.get(shelf, i), model.get(shelf, i));
        break;
    }
  }

  private void dear() {
    int plan = pickPlan();
    switch (random.nextInt(6)) {
      case 0:
        for (int what = 0; what <= 3 && random.nextInt(3) > 0; what++) {
          due("slowest(" + plan + ", " + what + ")", x.slowest(plan, what), model.slowest(plan, what));
        }
        break;
      case 1:
        int t = random.nextInt(4) == 0 ? pick(0, 999) : random.nextInt(60);
        due("intime(" + plan + ", " + t + ")", x.intime(plan, t), model.intime(plan, t));
        break;
      default:
        chosen();
        break;
    }
  }

  private void chosen() {
    int w = random.nextInt(20) == 0 ? pick(1, 6) : 1 + random.nextInt(4);
    int kinds = random.nextInt(4) == 0 ? pick(1, 15) : 1 << random.nextInt(4) | 1 << random.nextInt(4);
    int t = random.nextInt(4) == 0 ? pick(0, 999) : random.nextInt(110);
    if (random.nextInt(3) == 0) {
      feed(name());
      due("chosen(" + w + ", " + kinds + ", " + t + ")", x.chosen(w, kinds, t), model.chosen(w, kinds, t));
      due("count(2)", x.count(2), model.count(2));
      return;
    }
    for (int many = random.nextInt(3); many >= 0; many--) {
      int what = random.nextBoolean() ? pick(0, 2) : pick(10, 15);
      due("choose(" + w + ", " + kinds + ", " + t + ", " + what + ")", x.choose(w, kinds, t, what),
          model.choose(w, kinds, t, what));
    }
  }
}
