import java.lang.management.ManagementFactory;

/** No call makes objects: all rows are made in the constructor, as NOTES.md says. */
public final class RoomTest {
  private static final int MOST_BYTES = 4096;

  public static void main(String[] args) {
    com.sun.management.ThreadMXBean threads = (com.sun.management.ThreadMXBean) ManagementFactory.getThreadMXBean();
    long self = Thread.currentThread().getId();
    AdderChooser x = Check.with("a=l4", "b=c1s3", "w=l6c6");
    x.row(0, 0, 20);
    x.row(1, 1, 20);
    ask(x, 0);
    long before = threads.getThreadAllocatedBytes(self);
    for (int i = 0; i < 10; i++) {
      ask(x, i);
    }
    long made = threads.getThreadAllocatedBytes(self) - before;
    Check check = new Check();
    check.isTrue("the calls make no objects: " + made + " bytes", made < MOST_BYTES);
    check.end();
  }

  private static void ask(AdderChooser x, int i) {
    x.delay(i & 3, i);
    x.arrival(0, i, i);
    x.choose(6, 12, 100 + i, 0);
    x.feed('a' + i);
    x.chosen(6, 3, 999);
    x.feed('a');
    x.feed('=');
    x.feed('l');
    x.feed('4');
    x.read();
    x.gates(2, -1);
    x.latest(2, -1);
    x.deep(2);
    x.hangs(2);
    x.times(2);
    x.adds(2, 4095, i, 1);
    x.settles(2, -1, 4095, i, 1);
    x.slowest(0, 1);
    x.intime(1, 20);
    x.shared(0, 2);
    x.longest(15, 1, 0, 4, 0);
    x.runs(12, 5);
    x.into(0, 2);
    x.from(1, 0);
    x.shelve(2, 0);
    x.taken(2, 2);
    x.count(5);
    x.count(4);
  }
}
