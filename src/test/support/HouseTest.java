import java.lang.reflect.InvocationTargetException;
import java.lang.reflect.Method;
import java.util.ArrayList;
import java.util.Arrays;
import java.util.List;

/** Calls on one object of SlabHouse at a time, each with the answer that is due. */
abstract class HouseTest {
  static final int NONE = -1;
  static final int LEAST = Integer.MIN_VALUE;
  static final int MOST = Integer.MAX_VALUE;
  static final String NO_SUCH = "throws.NoSuchElementException";
  static final String ARGUMENT = "throws.IllegalArgumentException";
  static final String STATE = "throws.IllegalStateException";

  static final int FULL = 0;
  static final int PARTIAL = 1;
  static final int EMPTY = 2;

  /** Numbers that are no ADDRESS, some of which are one in their low bits. */
  static final int[] OUTSIDE = {LEAST, LEAST + 256, -262_144, -1024, -256, -1, 262_144, 262_400, 524_288, MOST};
  static final int[] NO_CACHE = {LEAST, -8, -1, 8, 9, 256, MOST};
  static final int[] NO_PROCESSOR = {LEAST, LEAST + 1, -4, -1, 4, 5, 256, MOST};

  /** What an object answers behind these is free, so that no test may ask for it. */
  private static final int MOST_CALLS = 512;
  /** The tests need a second or two; a call that does not end must fail, too. */
  private static final int MOST_SECONDS = 120;

  private record Call(String name, int[] arguments) {
    @Override
    public String toString() {
      return name + Arrays.toString(arguments);
    }
  }

  private static int wrong = 0;
  private static int parts = 0;
  private static String part = "";
  private static SlabHouse house;
  private static List<Call> calls;

  static {
    Thread watch = new Thread(HouseTest::failLate);
    watch.setDaemon(true);
    watch.start();
  }

  private static void failLate() {
    try {
      Thread.sleep(1000L * MOST_SECONDS);
    } catch (InterruptedException e) {
      return;
    }
    System.out.println(part + ": a call does not end");
    Runtime.getRuntime().halt(1);
  }

  /** A new object, for a part of the test that this name tells. */
  static void begin(String name) {
    use(new SlabHouse());
    part = name;
    parts++;
  }

  /** The same object goes on, for another part of the test. */
  static void goOn(String name) {
    part = name;
    parts++;
  }

  /** The same part of the test goes on with a new object. */
  static void again() {
    use(new SlabHouse());
  }

  private static void use(SlabHouse next) {
    house = next;
    calls = new ArrayList<>();
  }

  static void end() {
    System.out.println(wrong == 0 ? parts + " parts: all answers are as due" : wrong + " answers are not as due");
    if (wrong != 0) {
      System.exit(1);
    }
  }

  private static void fault(String text) {
    wrong++;
    System.out.println(part + ": " + text);
  }

  static void due(int want, String call, int... arguments) {
    due(String.valueOf(want), call, arguments);
  }

  static void due(String want, String call, int... arguments) {
    String got = answer(call, arguments);
    if (!got.equals(want)) {
      fault(new Call(call, arguments) + " answered " + got + ", due is " + want);
    }
  }

  /** The same answer for each of some values of one argument. */
  static void dueForEach(int[] values, int place, String want, String call, int... arguments) {
    for (int value : values) {
      int[] changed = arguments.clone();
      changed[place] = value;
      due(want, call, changed);
    }
  }

  static void dueForEach(int[] values, int place, int want, String call, int... arguments) {
    dueForEach(values, place, String.valueOf(want), call, arguments);
  }

  static String answer(String name, int... arguments) {
    calls.add(new Call(name, arguments));
    if (calls.size() == MOST_CALLS + 1) {
      fault("the test itself is wrong: it makes more than 512 calls on one object");
    }
    for (Method method : SlabHouse.class.getMethods()) {
      if (method.getName().equals(name) && method.getParameterCount() == arguments.length) {
        return invoke(method, arguments);
      }
    }
    return "no such call";
  }

  private static String invoke(Method method, int[] arguments) {
    try {
      return String.valueOf(method.invoke(house, Arrays.stream(arguments).boxed().toArray()));
    } catch (InvocationTargetException e) {
      return "throws." + e.getCause().getClass().getSimpleName();
    } catch (IllegalAccessException e) {
      return e.toString();
    }
  }

  /**
   * Two new objects get all calls that this one got, and one of them the call in question, too; then
   * both must answer the same. The object of the test is left as it was.
   */
  static void dueChangesNothing(String want, String call, int... arguments) {
    SlabHouse kept = house;
    List<Call> before = calls;
    repeat(before);
    List<String> without = look();
    repeat(before);
    due(want, call, arguments);
    List<String> with = look();
    for (int i = 0; i < with.size(); i++) {
      if (!with.get(i).equals(without.get(i))) {
        fault("behind " + new Call(call, arguments) + " " + with.get(i) + ", without it " + without.get(i));
        break;
      }
    }
    house = kept;
    calls = before;
  }

  private static void repeat(List<Call> all) {
    use(new SlabHouse());
    for (Call call : all) {
      answer(call.name(), call.arguments());
    }
  }

  /** All that can be asked of a small state, and what the orders within it do to the next calls. */
  private static List<String> look() {
    List<String> seen = new ArrayList<>();
    lookAtLists(seen);
    for (int page = 0; page < 10; page++) {
      see(seen, "cacheOf", 1024 * page);
      for (int what = 0; what < 4; what++) {
        see(seen, "slab", 1024 * page, what);
      }
    }
    for (int i = 0; i < 36; i++) {
      see(seen, "objectOf", 256 * i);
    }
    see(seen, "mark", 0, 5);
    see(seen, "mark", 256, 5);
    for (int processor = 0; processor < 4; processor++) {
      for (int i = 0; i < 7; i++) {
        see(seen, "allocate", 0, processor);
      }
      see(seen, "flush", processor);
    }
    see(seen, "empty", 0);
    see(seen, "allocate", 1, 0);
    see(seen, "cache", 8, 8, 0, 0);
    see(seen, "reap");
    lookAtLists(seen);
    return seen;
  }

  private static void lookAtLists(List<String> seen) {
    for (int order = 0; order < 7; order++) {
      see(seen, "block", order, 0);
      see(seen, "block", order, 1);
    }
    see(seen, "pages", 0);
    see(seen, "pages", 1);
    for (int cache = 0; cache < 2; cache++) {
      for (int what = 0; what < 8; what++) {
        see(seen, "about", cache, what);
      }
      for (int k = 0; k < 9; k++) {
        see(seen, "list", cache, k / 3, k % 3);
      }
      for (int processor = 0; processor < 4; processor++) {
        see(seen, "magazine", cache, processor, 0);
        see(seen, "magazine", cache, processor, 1);
      }
      see(seen, "magazine", cache, 0, 2);
    }
  }

  private static void see(List<String> seen, String name, int... arguments) {
    seen.add(new Call(name, arguments) + " answers " + answer(name, arguments));
  }

  static int[] steps(int from, int step, int count) {
    int[] row = new int[count];
    for (int i = 0; i < count; i++) {
      row[i] = from + step * i;
    }
    return row;
  }

  static void allocate(int cache, int processor, int... addresses) {
    for (int address : addresses) {
      due(address, "allocate", cache, processor);
    }
  }

  static void free(int cache, int processor, int... addresses) {
    for (int address : addresses) {
      due(cache, "free", address, processor);
    }
  }

  /** Objects come back to their slabs one by one, through a magazine that is empty before. */
  static void comeBack(int cache, int... addresses) {
    for (int address : addresses) {
      due(cache, "free", address, 3);
      due(1, "flush", 3);
    }
  }

  /** All free blocks of an order. */
  static void dueBlocks(int order, int... pages) {
    for (int k = 0; k < pages.length; k++) {
      due(pages[k], "block", order, k);
    }
    due(NONE, "block", order, pages.length);
  }

  /** A whole list of slabs. */
  static void dueList(int cache, int which, int... firstBytes) {
    for (int k = 0; k < firstBytes.length; k++) {
      due(firstBytes[k], "list", cache, which, k);
    }
    due(NONE, "list", cache, which, firstBytes.length);
  }

  static void dueMagazines(int cache, int processor, int loaded, int previous, int depot) {
    due(loaded, "magazine", cache, processor, 0);
    due(previous, "magazine", cache, processor, 1);
    due(depot, "magazine", cache, processor, 2);
  }

  /** The facts 0, 1, .. of a slab. */
  static void dueSlab(int address, int... facts) {
    for (int what = 0; what < facts.length; what++) {
      due(facts[what], "slab", address, what);
    }
  }

  /** The facts 0, 1, .. of a cache. */
  static void dueAbout(int cache, int... facts) {
    for (int what = 0; what < facts.length; what++) {
      due(facts[what], "about", cache, what);
    }
  }
}
