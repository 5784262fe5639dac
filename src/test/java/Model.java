import java.util.ArrayList;
import java.util.Arrays;
import java.util.HashMap;
import java.util.HashSet;
import java.util.LinkedHashMap;
import java.util.List;
import java.util.Map;
import java.util.Set;

/**
 * The document once more, as plainly as the Java library lets it be told: each
 * answer is reckoned from the words, nothing is kept or shortened. The tests
 * hold the class against it.
 */
final class Model {
  static final int BAD = -1, NOT = -2, FULL = -3, LONG = -7;
  static final long VOID = Long.MIN_VALUE;
  private static final String[] SORTS = {"NOT", "AND", "OR", "XOR"};

  /** An input, ZERO, ONE (no sort), or what is made. */
  static final class Gate {
    final String key;
    final String sort;
    final List<Gate> parts;

    Gate(String key, String sort, List<Gate> parts) {
      this.key = key;
      this.sort = sort;
      this.parts = parts;
    }
  }

  /** A net: each gate under a key that says how it is made of inputs. */
  static final class Net {
    final Map<String, Gate> gates = new HashMap<>();
    final Gate zero = input("0"), one = input("1"), carry = input("C");
    final List<Gate> outcomes = new ArrayList<>();

    Net(List<int[]> blocks) {
      Gate c = carry;
      int low = 0;
      for (int[] block : blocks) {
        int high = low + block[1] - 1;
        c = block(block[0], low, high, c);
        low = high + 1;
      }
      outcomes.add(c);
    }

    private Gate block(int kind, int low, int high, Gate c) {
      List<Gate> sums = new ArrayList<>();
      Gate out;
      if (kind == 0) {
        out = ripple(low, high, c, sums);
      } else if (kind == 1) {
        Gate rippled = ripple(low, high, c, sums);
        Gate all = p(low);
        for (int i = low + 1; i <= high; i++) all = and(all, p(i));
        out = or(rippled, and(all, c));
      } else if (kind == 2) {
        List<Gate> byZero = new ArrayList<>(), byOne = new ArrayList<>();
        Gate outZero = ripple(low, high, zero, byZero), outOne = ripple(low, high, one, byOne);
        for (int i = 0; i < byOne.size(); i++) {
          sums.add(or(and(byOne.get(i), c), and(byZero.get(i), not(c))));
        }
        out = or(outZero, and(outOne, c));
      } else {
        sums.add(xor(p(low), c));
        for (int i = low + 1; i <= high; i++) {
          sums.add(xor(p(i), or(bigG(low, i - 1), and(bigP(low, i - 1), c))));
        }
        out = or(bigG(low, high), and(bigP(low, high), c));
      }
      outcomes.addAll(sums);
      return out;
    }

    private Gate ripple(int low, int high, Gate c, List<Gate> sums) {
      for (int i = low; i <= high; i++) {
        sums.add(xor(p(i), c));
        c = or(g(i), and(p(i), c));
      }
      return c;
    }

    private Gate bigG(int i, int j) {
      if (i == j) return g(i);
      int m = (i + j) / 2;
      return or(bigG(m + 1, j), and(bigP(m + 1, j), bigG(i, m)));
    }

    private Gate bigP(int i, int j) {
      if (i == j) return p(i);
      int m = (i + j) / 2;
      return and(bigP(m + 1, j), bigP(i, m));
    }

    private Gate p(int i) {
      return xor(input("A" + i), input("B" + i));
    }

    private Gate g(int i) {
      return and(input("A" + i), input("B" + i));
    }

    private Gate input(String key) {
      return gates.computeIfAbsent(key, k -> new Gate(k, null, List.of()));
    }

    private Gate not(Gate x) {
      if (x == zero) return one;
      if (x == one) return zero;
      if ("NOT".equals(x.sort)) return x.parts.get(0);
      return made("NOT", x);
    }

    private Gate and(Gate x, Gate y) {
      if (x == zero || y == zero) return zero;
      if (x == one) return y;
      if (y == one) return x;
      return x == y ? x : made("AND", x, y);
    }

    private Gate or(Gate x, Gate y) {
      if (x == one || y == one) return one;
      if (x == zero) return y;
      if (y == zero) return x;
      return x == y ? x : made("OR", x, y);
    }

    private Gate xor(Gate x, Gate y) {
      if (x == zero) return y;
      if (y == zero) return x;
      if (x == one) return not(y);
      if (y == one) return not(x);
      return x == y ? zero : made("XOR", x, y);
    }

    private Gate made(String sort, Gate... parts) {
      String[] keys = new String[parts.length];
      for (int i = 0; i < parts.length; i++) keys[i] = parts[i].key;
      Arrays.sort(keys);
      String key = "(" + sort + " " + String.join(" ", keys) + ")";
      return gates.computeIfAbsent(key, k -> new Gate(k, sort, List.of(parts)));
    }

    Map<String, Gate> used() {
      Map<String, Gate> used = new HashMap<>();
      for (Gate outcome : outcomes) use(outcome, used);
      return used;
    }

    private static void use(Gate gate, Map<String, Gate> used) {
      if (gate.sort == null || used.put(gate.key, gate) != null) return;
      for (Gate part : gate.parts) use(part, used);
    }
  }

  private final LinkedHashMap<String, List<int[]>> plans = new LinkedHashMap<>();
  private final List<String> known = new ArrayList<>();
  private final StringBuilder tape = new StringBuilder();
  private final int[] delays = {1, 2, 2, 3};
  private final Map<String, Integer> arrivals = new HashMap<>();
  private final Object[] shelves = new Object[4];

  // ---- times and values ----

  private int delayOf(Gate gate) {
    return delays[Arrays.asList(SORTS).indexOf(gate.sort)];
  }

  private int comes(Gate gate, Map<Gate, Integer> told) {
    Integer there = told.get(gate);
    if (there != null) return there;
    int when = arrivals.getOrDefault(gate.key, 0);
    if (gate.sort != null) {
      when = 0;
      for (Gate part : gate.parts) when = Math.max(when, comes(part, told));
      when += delayOf(gate);
    }
    told.put(gate, when);
    return when;
  }

  private static int value(Gate gate, int a, int b, int c, Map<Gate, Integer> told) {
    Integer there = told.get(gate);
    if (there != null) return there;
    int value;
    if (gate.sort == null) {
      char first = gate.key.charAt(0);
      if (first == 'A') value = a >> Integer.parseInt(gate.key.substring(1)) & 1;
      else if (first == 'B') value = b >> Integer.parseInt(gate.key.substring(1)) & 1;
      else value = first == 'C' ? c : first - '0';
    } else if (gate.sort.equals("NOT")) {
      value = 1 - value(gate.parts.get(0), a, b, c, told);
    } else {
      int x = value(gate.parts.get(0), a, b, c, told), y = value(gate.parts.get(1), a, b, c, told);
      value = gate.sort.equals("AND") ? x & y : gate.sort.equals("OR") ? x | y : x ^ y;
    }
    told.put(gate, value);
    return value;
  }

  private int settled(Gate gate, Map<Gate, Integer> values, Map<Gate, Integer> told) {
    Integer there = told.get(gate);
    if (there != null) return there;
    int when = arrivals.getOrDefault(gate.key, 0);
    if (gate.sort != null) {
      int ruling = gate.sort.equals("AND") ? 0 : gate.sort.equals("OR") ? 1 : -1;
      boolean ruled = values.get(gate) == ruling;
      when = ruled ? Integer.MAX_VALUE : 0;
      for (Gate part : gate.parts) {
        int itsTime = settled(part, values, told);
        if (!ruled) when = Math.max(when, itsTime);
        else if (values.get(part) == ruling) when = Math.min(when, itsTime);
      }
      when += delayOf(gate);
    }
    told.put(gate, when);
    return when;
  }

  private int[] settleTimes(Net net, int a, int b, int c) {
    Map<Gate, Integer> values = new HashMap<>(), told = new HashMap<>();
    int[] times = new int[net.outcomes.size()];
    for (Gate gate : net.outcomes) value(gate, a, b, c, values);
    // Values of all inputs too, as a gate may be ruled by one.
    for (Gate gate : net.gates.values()) value(gate, a, b, c, values);
    for (int i = 0; i < times.length; i++) times[i] = settled(net.outcomes.get(i), values, told);
    return times;
  }

  private int[] comeTimes(Net net) {
    Map<Gate, Integer> told = new HashMap<>();
    int[] times = new int[net.outcomes.size()];
    for (int i = 0; i < times.length; i++) times[i] = comes(net.outcomes.get(i), told);
    return times;
  }

  private static int most(int[] times) {
    int most = 0;
    for (int t : times) most = Math.max(most, t);
    return most;
  }

  private Set<Gate> hanging(Net net) {
    Map<Gate, Integer> told = new HashMap<>();
    int last = most(comeTimes(net));
    Set<Gate> hanging = new HashSet<>();
    List<Gate> open = new ArrayList<>();
    for (Gate outcome : net.outcomes) if (comes(outcome, told) == last) open.add(outcome);
    while (!open.isEmpty()) {
      Gate gate = open.remove(open.size() - 1);
      if (!hanging.add(gate)) continue;
      for (Gate part : gate.parts) {
        if (comes(part, told) + delayOf(gate) == comes(gate, told)) open.add(part);
      }
    }
    return hanging;
  }

  private int chain(Gate gate, Map<Gate, Integer> times, Map<Gate, Integer> told) {
    if (gate.sort == null) return 0;
    Integer there = told.get(gate);
    if (there != null) return there;
    int below = 0;
    for (Gate part : gate.parts) {
      boolean hangsOnIt = comes(part, times) + delayOf(gate) == comes(gate, times);
      if (hangsOnIt) below = Math.max(below, chain(part, times, told));
    }
    told.put(gate, below + 1);
    return below + 1;
  }

  // ---- blocks ----

  private boolean isPlan(int plan) {
    return plan >= 0 && plan < plans.size();
  }

  private List<int[]> blocksOf(int plan) {
    return new ArrayList<>(plans.values()).get(plan);
  }

  private String nameOf(int plan) {
    return new ArrayList<>(plans.keySet()).get(plan);
  }

  private static int width(List<int[]> blocks) {
    int width = 0;
    for (int[] block : blocks) width += block[1];
    return width;
  }

  private static String text(List<int[]> blocks) {
    StringBuilder text = new StringBuilder();
    for (int[] block : blocks) text.append("rscl".charAt(block[0])).append(block[1]);
    return text.toString();
  }

  private void ask(List<int[]> blocks) {
    known.remove(text(blocks));
    known.add(text(blocks));
    if (known.size() > 20) known.remove(0);
  }

  private int tell(String name, List<int[]> blocks) {
    if (!plans.containsKey(name) && plans.size() == 12) return FULL;
    plans.put(name, blocks);
    return new ArrayList<>(plans.keySet()).indexOf(name);
  }

  private String takeTape() {
    String text = tape.toString();
    tape.setLength(0);
    return text;
  }

  /** Whether a text goes on so: whether some text that may be written begins with this one. */
  private static boolean goesOn(String text) {
    int equals = text.indexOf('=');
    if (equals < 0) return text.matches("[a-z]{0,4}");
    if (!text.substring(0, equals).matches("[a-z]{1,4}")) return false;
    String blocks = text.substring(equals + 1);
    if (!blocks.matches("([rscl][1-6])*[rscl]?")) return false;
    int width = 0;
    for (int i = 1; i < blocks.length(); i += 2) width += blocks.charAt(i) - '0';
    if (width > 12 || blocks.length() > 16) return false;
    return width < 12 || blocks.length() % 2 == 0;
  }

  private static boolean isWhole(String text) {
    return goesOn(text) && text.matches("[a-z]+=([rscl][1-6])+");
  }

  // ---- the calls ----

  int feed(int letter) {
    if (letter < 32 || letter > 126) return BAD;
    if (tape.length() == 40) return FULL;
    return tape.append((char) letter).length();
  }

  int read() {
    String text = takeTape();
    if (!isWhole(text)) {
      int fault = 0;
      while (fault < text.length() && goesOn(text.substring(0, fault + 1))) fault++;
      return -100 - fault;
    }
    List<int[]> blocks = new ArrayList<>();
    int at = text.indexOf('=');
    for (int i = at + 1; i < text.length(); i += 2) {
      blocks.add(new int[] {"rscl".indexOf(text.charAt(i)), text.charAt(i + 1) - '0'});
    }
    return tell(text.substring(0, at), blocks);
  }

  int find() {
    int plan = new ArrayList<>(plans.keySet()).indexOf(takeTape());
    return plan < 0 ? NOT : plan;
  }

  int forget(int plan) {
    if (!isPlan(plan)) return BAD;
    plans.remove(nameOf(plan));
    return plans.size();
  }

  int plan(int plan, int what) {
    if (!isPlan(plan) || what < -2) return BAD;
    List<int[]> blocks = blocksOf(plan);
    if (what == -1) return width(blocks);
    if (what == -2) return blocks.size();
    return figure(blocks, what);
  }

  private static int figure(List<int[]> blocks, int i) {
    return i >= blocks.size() ? NOT : 10 * blocks.get(i)[0] + blocks.get(i)[1];
  }

  int name(int plan, int i) {
    if (!isPlan(plan) || i < -1) return BAD;
    String name = nameOf(plan);
    if (i == -1) return name.length();
    return i < name.length() ? name.charAt(i) : NOT;
  }

  int delay(int gate, int v) {
    if (gate < 0 || gate > 3 || v < 0 || v > 9) return BAD;
    int old = delays[gate];
    delays[gate] = v;
    known.clear();
    return old;
  }

  private static String inputAt(int side, int place) {
    if (side == 2 && place == 0) return "C";
    if (side < 0 || side > 1 || place < 0 || place > 11) return null;
    return (side == 0 ? "A" : "B") + place;
  }

  int arrival(int side, int place, int v) {
    String input = inputAt(side, place);
    if (input == null || v < 0 || v > 99) return BAD;
    Integer old = arrivals.put(input, v);
    known.clear();
    return old == null ? 0 : old;
  }

  int arrives(int side, int place) {
    String input = inputAt(side, place);
    return input == null ? BAD : arrivals.getOrDefault(input, 0);
  }

  int gates(int plan, int gate) {
    if (!isPlan(plan) || gate < -1 || gate > 3) return BAD;
    ask(blocksOf(plan));
    int many = 0;
    for (Gate used : new Net(blocksOf(plan)).used().values()) {
      if (gate == -1 || used.sort.equals(SORTS[gate])) many++;
    }
    return many;
  }

  int latest(int plan, int outcome) {
    if (!isPlan(plan) || outcome < -1 || outcome > width(blocksOf(plan))) return BAD;
    ask(blocksOf(plan));
    int[] times = comeTimes(new Net(blocksOf(plan)));
    return outcome < 0 ? most(times) : times[outcome];
  }

  int deep(int plan) {
    if (!isPlan(plan)) return BAD;
    ask(blocksOf(plan));
    Net net = new Net(blocksOf(plan));
    Map<Gate, Integer> times = new HashMap<>(), told = new HashMap<>();
    int last = most(comeTimes(net));
    int deep = 0;
    for (Gate outcome : net.outcomes) {
      if (comes(outcome, times) == last) deep = Math.max(deep, chain(outcome, times, told));
    }
    return deep;
  }

  int hangs(int plan) {
    if (!isPlan(plan)) return BAD;
    int bits = 0;
    for (Gate gate : hanging(new Net(blocksOf(plan)))) {
      if (gate.sort != null) continue;
      char first = gate.key.charAt(0);
      bits |= 1 << (first == 'C' ? 24 : Integer.parseInt(gate.key.substring(1)) + (first == 'A' ? 0 : 12));
    }
    return bits;
  }

  int times(int plan) {
    if (!isPlan(plan)) return BAD;
    Set<Integer> unlike = new HashSet<>();
    for (int t : comeTimes(new Net(blocksOf(plan)))) unlike.add(t);
    return unlike.size();
  }

  private static boolean areNumbers(int a, int b, int c, int w) {
    return a >= 0 && a < 1 << w && b >= 0 && b < 1 << w && (c == 0 || c == 1);
  }

  int adds(int plan, int a, int b, int c) {
    if (!isPlan(plan) || !areNumbers(a, b, c, width(blocksOf(plan)))) return BAD;
    return a + b + c;
  }

  int settles(int plan, int outcome, int a, int b, int c) {
    if (!isPlan(plan) || outcome < -1 || outcome > width(blocksOf(plan))) return BAD;
    if (!areNumbers(a, b, c, width(blocksOf(plan)))) return BAD;
    int[] times = settleTimes(new Net(blocksOf(plan)), a, b, c);
    return outcome < 0 ? most(times) : times[outcome];
  }

  int slowest(int plan, int what) {
    if (!isPlan(plan) || what < 0 || what > 3) return BAD;
    int w = width(blocksOf(plan));
    if (w > 4) return LONG;
    Net net = new Net(blocksOf(plan));
    int[] worst = {-1, 0, 0, 0};
    for (int c = 0; c <= 1; c++) {
      for (int b = 0; b < 1 << w; b++) {
        for (int a = 0; a < 1 << w; a++) {
          int t = most(settleTimes(net, a, b, c));
          if (t > worst[0]) worst = new int[] {t, a, b, c};
        }
      }
    }
    return worst[what];
  }

  int intime(int plan, int t) {
    if (!isPlan(plan) || t < 0 || t > 999) return BAD;
    int w = width(blocksOf(plan));
    if (w > 4) return LONG;
    Net net = new Net(blocksOf(plan));
    int many = 0;
    for (int i = 0; i < 2 << 2 * w; i++) {
      int a = i >> 1 & (1 << w) - 1, b = i >> 1 + w;
      if (most(settleTimes(net, a, b, i & 1)) <= t) many++;
    }
    return many;
  }

  int shared(int plan, int other) {
    if (!isPlan(plan) || !isPlan(other)) return BAD;
    Set<String> both = new HashSet<>(new Net(blocksOf(plan)).used().keySet());
    both.retainAll(new Net(blocksOf(other)).used().keySet());
    return both.size();
  }

  int alike(int plan, int other) {
    if (!isPlan(plan) || !isPlan(other)) return BAD;
    if (text(blocksOf(plan)).equals(text(blocksOf(other)))) return 2;
    return width(blocksOf(plan)) == width(blocksOf(other)) ? 1 : 0;
  }

  int known(int plan) {
    if (!isPlan(plan)) return BAD;
    return known.contains(text(blocksOf(plan))) ? 1 : 0;
  }

  /** All blocks of width w of these kinds, not in the order of rows. */
  private static void all(int w, int kinds, List<int[]> below, List<List<int[]>> into) {
    if (w == 0) into.add(new ArrayList<>(below));
    for (int part = Math.min(3, w); part >= 1; part--) {
      for (int kind = 3; kind >= 0; kind--) {
        if ((kinds >> kind & 1) == 0) continue;
        below.add(new int[] {kind, part});
        all(w - part, kinds, below, into);
        below.remove(below.size() - 1);
      }
    }
  }

  private static boolean isAhead(List<int[]> one, List<int[]> two) {
    for (int i = 0; i < one.size() && i < two.size(); i++) {
      int order = Arrays.compare(one.get(i), two.get(i));
      if (order != 0) return order < 0;
    }
    return one.size() < two.size();
  }

  private List<List<int[]>> inTime(int w, int kinds, int t) {
    List<List<int[]>> all = new ArrayList<>();
    all(w, kinds, new ArrayList<>(), all);
    all.removeIf(blocks -> most(comeTimes(new Net(blocks))) > t);
    return all;
  }

  private static List<int[]> best(List<List<int[]>> inTime) {
    List<int[]> best = null;
    int fewest = 0;
    for (List<int[]> blocks : inTime) {
      int gates = new Net(blocks).used().size();
      if (best == null || gates < fewest || gates == fewest && isAhead(blocks, best)) {
        best = blocks;
        fewest = gates;
      }
    }
    return best;
  }

  private static boolean canChoose(int w, int kinds, int t) {
    if (kinds < 1 || kinds > 15 || Integer.bitCount(kinds) > 2) return false;
    return w >= 1 && w <= 6 && t >= 0 && t <= 999;
  }

  int choose(int w, int kinds, int t, int what) {
    if (!canChoose(w, kinds, t) || what < 0 || what >= 3 && what <= 9) return BAD;
    List<List<int[]>> inTime = inTime(w, kinds, t);
    if (what == 2) return inTime.size();
    if (inTime.isEmpty()) return NOT;
    List<int[]> best = best(inTime);
    if (what == 0) return new Net(best).used().size();
    return what == 1 ? most(comeTimes(new Net(best))) : figure(best, what - 10);
  }

  int chosen(int w, int kinds, int t) {
    if (!canChoose(w, kinds, t)) return BAD;
    String name = takeTape();
    if (!name.matches("[a-z]{1,4}")) return -100;
    List<List<int[]>> inTime = inTime(w, kinds, t);
    return inTime.isEmpty() ? NOT : tell(name, best(inTime));
  }

  /** Length and beginning of each run, each looked at by itself. */
  private static List<int[]> runsOf(int a, int b, int c, int w) {
    List<int[]> runs = new ArrayList<>();
    int one = a ^ b;
    if (c == 1) runs.add(new int[] {ones(one, 0, w), 0});
    for (int i = 0; i < w; i++) {
      if (((a & b) >> i & 1) == 1) runs.add(new int[] {ones(one, i + 1, w), i});
    }
    return runs;
  }

  private static int ones(int bits, int from, int w) {
    int many = 0;
    while (from + many < w && (bits >> from + many & 1) == 1) many++;
    return many;
  }

  int longest(int a, int b, int c, int w, int what) {
    if (w < 1 || w > 12 || !areNumbers(a, b, c, w) || what < 0 || what > 1) return BAD;
    List<int[]> runs = runsOf(a, b, c, w);
    int length = 0;
    for (int[] run : runs) length = Math.max(length, run[0]);
    if (what == 0) return length;
    int lowest = NOT;
    for (int[] run : runs) if (run[0] == length && (lowest == NOT || run[1] < lowest)) lowest = run[1];
    return lowest;
  }

  long runs(int w, int n) {
    if (w < 1 || w > 12 || n < 0 || n > 12) return VOID;
    long many = 0;
    for (int a = 0; a < 1 << w; a++) {
      for (int b = 0; b < 1 << w; b++) if (longest(a, b, 0, w, 0) <= n) many++;
    }
    return many;
  }

  private static boolean isShelf(int shelf) {
    return shelf >= 0 && shelf < 4;
  }

  int shelve(int shelf, int plan) {
    if (!isShelf(shelf) || plan != -1 && !isPlan(plan)) return BAD;
    shelves[shelf] = plan == -1 ? null : text(blocksOf(plan));
    return 1;
  }

  int taken(int shelf, int what) {
    if (!isShelf(shelf) || what < 0 || what > 2) return BAD;
    if (shelves[shelf] == null) return -11;
    if (!(shelves[shelf] instanceof String)) return -12;
    String text = (String) shelves[shelf];
    if (what == 1) return known.contains(text) ? 1 : 0;
    int answer = 0;
    if (what == 0) {
      for (int i = 1; i < text.length(); i += 2) answer += text.charAt(i) - '0';
    } else {
      for (List<int[]> blocks : plans.values()) if (text(blocks).equals(text)) answer++;
    }
    return answer;
  }

  int row(int shelf, int sort, int n) {
    if (!isShelf(shelf) || sort < 0 || sort > 1 || n > 20) return BAD;
    if (n < 0) return -14;
    shelves[shelf] = sort == 0 ? new long[n] : new byte[n];
    return 1;
  }

  int put(int shelf, int i, long v) {
    if (!isShelf(shelf)) return BAD;
    Object there = shelves[shelf];
    if (there == null) return -11;
    if (there instanceof String) return -12;
    if (i < 0 || i >= java.lang.reflect.Array.getLength(there)) return -13;
    if (there instanceof long[]) ((long[]) there)[i] = v;
    else ((byte[]) there)[i] = (byte) v;
    return 1;
  }

  long get(int shelf, int i) {
    if (!isShelf(shelf)) return VOID;
    Object there = shelves[shelf];
    if (there == null || there instanceof String) return VOID;
    if (i < 0 || i >= java.lang.reflect.Array.getLength(there)) return VOID;
    return java.lang.reflect.Array.getLong(there, i);
  }

  int into(int shelf, int plan) {
    if (!isShelf(shelf) || !isPlan(plan)) return BAD;
    if (shelves[shelf] == null) return -11;
    if (!(shelves[shelf] instanceof long[])) return -12;
    long[] row = (long[]) shelves[shelf];
    int[] times = comeTimes(new Net(blocksOf(plan)));
    int i = 0;
    for (; i < row.length && i < times.length; i++) row[i] = times[i];
    return i;
  }

  int from(int shelf, int side) {
    if (!isShelf(shelf) || side < 0 || side > 1) return BAD;
    if (shelves[shelf] == null) return -11;
    if (!(shelves[shelf] instanceof byte[])) return -12;
    byte[] row = (byte[]) shelves[shelf];
    int i = 0;
    for (; i < row.length && i < 12 && row[i] >= 0 && row[i] <= 99; i++) arrival(side, i, row[i]);
    return i;
  }

  int count(int what) {
    int many = 0;
    Set<String> unlike = new HashSet<>();
    for (List<int[]> blocks : plans.values()) {
      many += blocks.size();
      for (int[] block : blocks) unlike.add(Arrays.toString(block));
    }
    int filled = 0;
    for (Object shelf : shelves) if (shelf != null) filled++;
    int[] answers = {plans.size(), known.size(), tape.length(), filled, many, unlike.size()};
    return what < 0 || what > 5 ? BAD : answers[what];
  }
}
