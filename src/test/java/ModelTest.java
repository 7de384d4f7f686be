import java.lang.reflect.InvocationTargetException;
import java.lang.reflect.Method;
import java.util.ArrayList;
import java.util.Arrays;
import java.util.HashMap;
import java.util.LinkedList;
import java.util.List;
import java.util.Map;
import java.util.NoSuchElementException;
import java.util.Random;
import java.util.TreeMap;
import java.util.TreeSet;

/** Runs of calls by chance, whose answers are compared with those of a slow model of the document. */
public final class ModelTest {
  private static final int RUNS = 120;
  private static final int CALLS = 512;
  private static final Map<String, Method> HOUSE = methods(SlabHouse.class);
  private static final Map<String, Method> MODEL = methods(Model.class);
  private static int wrong = 0;

  public static void main(String[] args) {
    for (int run = 0; run < RUNS && wrong < 20; run++) {
      new Run(run).go();
    }
    System.out.println(wrong == 0 ? "all answers are as the model's" : wrong + " answers are not as the model's");
    if (wrong != 0) {
      System.exit(1);
    }
  }

  private static Map<String, Method> methods(Class<?> type) {
    Map<String, Method> found = new HashMap<>();
    for (Method method : type.getDeclaredMethods()) {
      if (!java.lang.reflect.Modifier.isPrivate(method.getModifiers())) {
        found.put(method.getName(), method);
      }
    }
    return found;
  }

  private static String answer(Map<String, Method> methods, Object of, String name, int... arguments) {
    Object[] boxed = Arrays.stream(arguments).boxed().toArray();
    try {
      return String.valueOf(methods.get(name).invoke(of, boxed));
    } catch (InvocationTargetException e) {
      return "throws." + e.getCause().getClass().getSimpleName();
    } catch (IllegalAccessException e) {
      throw new IllegalStateException(e);
    }
  }

  private static final class Run {
    final int number;
    final Random chance;
    final SlabHouse house = new SlabHouse();
    final Model model = new Model();
    final List<String> calls = new ArrayList<>();
    final int worth;
    final int sizes;

    Run(int number) {
      this.number = number;
      chance = new Random(77_000 + number);
      // Some runs free little, so that memory runs out; some free much, so that the depots fill.
      worth = 1 + number % 4;
      sizes = number / 4 % 3;
    }

    void go() {
      for (int i = 0; i < CALLS && wrong < 20; i++) {
        step();
        if (i % 64 == 63 || number % 40 == 0) {
          compareAll();
        }
      }
      compareAll();
    }

    void compare(String name, int... arguments) {
      String call = name + Arrays.toString(arguments);
      String got = answer(HOUSE, house, name, arguments);
      String want = answer(MODEL, model, name, arguments);
      calls.add(call + " = " + want);
      if (!got.equals(want)) {
        wrong++;
        System.out.println("run " + number + ": " + call + " answered " + got + ", due is " + want);
        System.out.println("  behind " + calls.subList(Math.max(0, calls.size() - 30), calls.size()));
      }
    }

    void step() {
      int dice = chance.nextInt(100);
      if (dice < 4 || model.caches.isEmpty()) {
        compare("cache", size(), 8 << chance.nextInt(4), chance.nextInt(4), chance.nextInt(3));
      } else if (dice < 6) {
        compare("cache", 8 * chance.nextInt(520) + chance.nextInt(2), chance.nextInt(70), chance.nextInt(6) - 1, 1);
      } else if (dice < 50) {
        int cache = cache();
        int processor = processor();
        for (int i = chance.nextInt(10); i >= 0; i--) {
          compare("allocate", cache, processor);
        }
      } else if (dice < 78) {
        int processor = processor();
        for (int i = chance.nextInt(5) * worth; i >= 0; i--) {
          compare("free", live(), processor);
        }
      } else if (dice < 81) {
        int address = live();
        compare("mark", address, chance.nextInt(3));
        compare("free", address, processor());
      } else if (dice < 83) {
        compare("mark", address(), chance.nextInt(3));
      } else if (dice < 87) {
        compare("flush", processor());
      } else if (dice < 91) {
        compare("empty", cache());
      } else if (dice < 93) {
        compare("reap");
      } else if (dice < 95) {
        dropSome();
      } else if (dice < 98) {
        compare("free", address(), processor());
      } else {
        compareWild();
      }
    }

    void dropSome() {
      int cache = cache();
      if (chance.nextInt(4) == 0) {
        for (int address : model.liveOf(cache)) {
          compare("mark", address, model.tagOf(cache));
          compare("free", address, chance.nextInt(4));
        }
      }
      compare("drop", cache);
    }

    int size() {
      return 8 + 8 * chance.nextInt(sizes == 0 ? 512 : sizes == 1 ? 64 : 16);
    }

    int cache() {
      return chance.nextInt(25) == 0 ? chance.nextInt(11) - 1 : chance.nextInt(Math.max(1, model.caches.size()));
    }

    int processor() {
      return chance.nextInt(25) == 0 ? chance.nextInt(7) - 1 : chance.nextInt(worth);
    }

    int live() {
      List<Integer> all = model.live();
      return all.isEmpty() ? address() : all.get(chance.nextInt(all.size()));
    }

    int address() {
      return chance.nextInt(3) == 0 ? chance.nextInt() : chance.nextInt(262_144) - 4;
    }

    void compareWild() {
      for (int wild : new int[] {Integer.MIN_VALUE, -1, 3, 4, 7, 8, 64, 262_143, 262_144, Integer.MAX_VALUE}) {
        for (String name : new String[] {"flush", "empty", "cacheOf", "objectOf", "pages"}) {
          compare(name, wild);
        }
        for (String name : new String[] {"free", "about", "slab", "block", "allocate"}) {
          compare(name, wild, chance.nextInt(4));
          compare(name, chance.nextInt(8), wild);
        }
        compare("list", wild, 1, 0);
        compare("list", 0, wild, 0);
        compare("list", 0, 1, wild);
        compare("magazine", wild, 0, 0);
        compare("magazine", 0, wild, 0);
        compare("magazine", 0, 0, wild);
        compare("cache", wild, 8, 3, 0);
        compare("cache", 64, wild, 3, 0);
        compare("cache", 64, 8, wild, 0);
      }
    }

    /** The document frees what calls behind the 512th answer; the class goes on as before. */
    void compareAll() {
      calls.add("(all)");
      for (int order = -1; order <= 7; order++) {
        int known = order < 0 || order > 6 ? 0 : model.free.get(order).size();
        for (int k = -1; k <= known; k++) {
          compareQuietly("block", order, k);
        }
      }
      for (int what = -1; what <= 2; what++) {
        compareQuietly("pages", what);
      }
      for (int cache = -1; cache <= 8; cache++) {
        compareCache(cache);
      }
      for (int page = -1; page <= 256; page++) {
        for (int what = -1; what <= 4; what++) {
          compareQuietly("slab", page * 1024 + chance.nextInt(1024), what);
        }
        compareQuietly("cacheOf", page * 1024 + chance.nextInt(1024));
        compareQuietly("objectOf", page * 1024 + chance.nextInt(1024));
      }
      for (int address : model.live()) {
        compareQuietly("objectOf", address);
        compareQuietly("objectOf", address - 1);
        compareQuietly("objectOf", address + chance.nextInt(300));
      }
    }

    void compareCache(int cache) {
      for (int what = -1; what <= 8; what++) {
        compareQuietly("about", cache, what);
      }
      for (int which = -1; which <= 3; which++) {
        for (int k = -1; k < 12; k++) {
          compareQuietly("list", cache, which, k);
        }
      }
      for (int processor = -1; processor <= 4; processor++) {
        for (int what = -1; what <= 3; what++) {
          compareQuietly("magazine", cache, processor, what);
        }
      }
    }

    void compareQuietly(String name, int... arguments) {
      int before = calls.size();
      compare(name, arguments);
      calls.subList(before, calls.size()).clear();
    }
  }

  /** The document, written down as plainly as lists and maps let it. */
  static final class Model {
    static final class Thing {
      final Slab home;
      final int number;
      final int address;
      int mark;

      Thing(Slab home, int number, int address, int mark) {
        this.home = home;
        this.number = number;
        this.address = address;
        this.mark = mark;
      }
    }

    static final class Slab {
      final Cache cache;
      final int page;
      final int colour;
      final LinkedList<Thing> row = new LinkedList<>();

      Slab(Cache cache, int page, int colour) {
        this.cache = cache;
        this.page = page;
        this.colour = colour;
        for (int i = 0; i < cache.objects; i++) {
          int address = page * 1024 + colour * cache.align + i * cache.stride;
          row.add(new Thing(this, i, address, cache.tag));
        }
      }
    }

    static final class Cache {
      int number;
      int size;
      int align;
      int order;
      int tag;
      int stride;
      int objects;
      int spare;
      int next;
      int none;
      boolean dropped;
      final List<LinkedList<Slab>> lists = List.of(new LinkedList<>(), new LinkedList<>(), new LinkedList<>());
      final List<List<Thing>> loaded = new ArrayList<>();
      final List<List<Thing>> previous = new ArrayList<>();
      final LinkedList<List<Thing>> depot = new LinkedList<>();

      int slabs() {
        return lists.get(0).size() + lists.get(1).size() + lists.get(2).size();
      }

      void change(Slab slab) {
        LinkedList<Slab> now = lists.get(slab.row.isEmpty() ? 0 : slab.row.size() == objects ? 2 : 1);
        if (now.contains(slab)) {
          return;
        }
        for (LinkedList<Slab> list : lists) {
          list.remove(slab);
        }
        now.addFirst(slab);
      }
    }

    final List<TreeSet<Integer>> free = new ArrayList<>();
    final List<Cache> caches = new ArrayList<>();
    final TreeMap<Integer, Thing> live = new TreeMap<>();

    Model() {
      for (int order = 0; order <= 6; order++) {
        free.add(new TreeSet<>());
      }
      free.get(6).addAll(List.of(0, 64, 128, 192));
    }

    int cache(int size, int align, int order, int tag) {
      if (size < 8 || size > 4096 || size % 8 != 0 || !List.of(8, 16, 32, 64).contains(align) || order < 0 || order > 3) {
        throw new IllegalArgumentException();
      }
      Cache made = new Cache();
      made.size = size;
      made.align = align;
      made.order = order;
      made.tag = tag;
      while (made.stride < size) {
        made.stride += align;
      }
      made.spare = 1024 * (int) Math.pow(2, order);
      while (made.spare >= made.stride) {
        made.spare -= made.stride;
        made.objects++;
      }
      if (made.objects == 0) {
        throw new IllegalArgumentException();
      }
      if (caches.size() == 8) {
        return -1;
      }
      for (int i = 0; i < 4; i++) {
        made.loaded.add(new ArrayList<>());
        made.previous.add(new ArrayList<>());
      }
      made.number = caches.size();
      caches.add(made);
      return made.number;
    }

    int drop(int cache) {
      Cache gone = known(cache);
      if (about(cache, 5) != 0) {
        throw new IllegalStateException();
      }
      int pages = 0;
      for (LinkedList<Slab> list : gone.lists) {
        for (Slab slab : list) {
          give(slab.page, gone.order);
          pages += (int) Math.pow(2, gone.order);
        }
        list.clear();
      }
      gone.dropped = true;
      return pages;
    }

    int allocate(int cache, int processor) {
      Cache from = known(cache);
      requireProcessor(processor);
      if (from.loaded.get(processor).isEmpty() && !from.previous.get(processor).isEmpty()) {
        from.previous.set(processor, from.loaded.set(processor, from.previous.get(processor)));
      } else if (from.loaded.get(processor).isEmpty() && !from.depot.isEmpty()) {
        from.loaded.set(processor, from.depot.removeLast());
      }
      List<Thing> loaded = from.loaded.get(processor);
      Thing taken = loaded.isEmpty() ? fromTheSlabs(from) : loaded.remove(loaded.size() - 1);
      if (taken == null) {
        from.none++;
        return -1;
      }
      live.put(taken.address, taken);
      return taken.address;
    }

    int free(int address, int processor) {
      Thing freed = liveAt(address);
      requireProcessor(processor);
      Cache cache = freed.home.cache;
      if (freed.mark != cache.tag) {
        throw new IllegalStateException();
      }
      live.remove(address);
      List<Thing> loaded = cache.loaded.get(processor);
      List<Thing> previous = cache.previous.get(processor);
      if (loaded.size() == 4 && previous.size() < 4) {
        cache.loaded.set(processor, previous);
        cache.previous.set(processor, loaded);
      } else if (loaded.size() == 4 && cache.depot.size() < 3) {
        cache.depot.addLast(previous);
        cache.previous.set(processor, loaded);
        cache.loaded.set(processor, new ArrayList<>());
      }
      if (cache.loaded.get(processor).size() < 4) {
        cache.loaded.get(processor).add(freed);
      } else {
        back(freed);
      }
      return cache.number;
    }

    int mark(int address, int mark) {
      Thing marked = liveAt(address);
      int was = marked.mark;
      marked.mark = mark;
      return was;
    }

    int flush(int processor) {
      requireProcessor(processor);
      int sum = 0;
      for (Cache cache : caches) {
        if (!cache.dropped) {
          sum += backAll(cache.loaded.get(processor)) + backAll(cache.previous.get(processor));
        }
      }
      return sum;
    }

    int empty(int cache) {
      int sum = 0;
      for (LinkedList<List<Thing>> depot = known(cache).depot; !depot.isEmpty();) {
        sum += backAll(depot.removeLast());
      }
      return sum;
    }

    int reap() {
      int pages = 0;
      for (Cache cache : caches) {
        for (LinkedList<Slab> list = cache.lists.get(2); !list.isEmpty();) {
          give(list.removeFirst().page, cache.order);
          pages += (int) Math.pow(2, cache.order);
        }
      }
      return pages;
    }

    int cacheOf(int address) {
      Slab home = slabOver(address);
      return home == null ? -1 : home.cache.number;
    }

    int objectOf(int address) {
      Map.Entry<Integer, Thing> below = live.floorEntry(address);
      return below == null || address - below.getKey() >= below.getValue().home.cache.size ? -1 : below.getKey();
    }

    int about(int cache, int what) {
      Cache asked = known(cache);
      switch (what) {
        case 0:
          return asked.stride;
        case 1:
          return asked.objects;
        case 2:
          return asked.spare / asked.align + 1;
        case 3:
          return asked.next;
        case 4:
          return asked.slabs();
        case 5:
          return liveOf(cache).size();
        case 6:
          int sum = 0;
          for (List<List<Thing>> all : List.of(asked.loaded, asked.previous, asked.depot)) {
            for (List<Thing> magazine : all) {
              sum += magazine.size();
            }
          }
          return sum;
        case 7:
          return asked.none;
        default:
          throw new IllegalArgumentException();
      }
    }

    int list(int cache, int which, int k) {
      Cache asked = known(cache);
      if (which < 0 || which > 2) {
        throw new IllegalArgumentException();
      }
      LinkedList<Slab> list = asked.lists.get(which);
      return k < 0 || k >= list.size() ? -1 : list.get(k).page * 1024;
    }

    int slab(int address, int what) {
      Slab asked = slabOver(address);
      if (asked == null) {
        throw new NoSuchElementException();
      }
      switch (what) {
        case 0:
          return asked.page * 1024;
        case 1:
          return asked.colour;
        case 2:
          return asked.cache.objects - asked.row.size();
        case 3:
          return asked.row.isEmpty() ? -1 : asked.row.getFirst().number;
        default:
          throw new IllegalArgumentException();
      }
    }

    int magazine(int cache, int processor, int what) {
      Cache asked = known(cache);
      requireProcessor(processor);
      switch (what) {
        case 0:
          return asked.loaded.get(processor).size();
        case 1:
          return asked.previous.get(processor).size();
        case 2:
          return asked.depot.size();
        default:
          throw new IllegalArgumentException();
      }
    }

    int block(int order, int k) {
      if (order < 0 || order > 6) {
        throw new IllegalArgumentException();
      }
      List<Integer> pages = new ArrayList<>(free.get(order));
      return k < 0 || k >= pages.size() ? -1 : pages.get(k);
    }

    int pages(int what) {
      int sum = 0;
      if (what == 0) {
        for (int order = 0; order <= 6; order++) {
          sum += free.get(order).size() << order;
        }
        return sum;
      }
      for (Cache cache : caches) {
        sum += cache.slabs() << cache.order;
      }
      return what == 1 ? sum : -1;
    }

    List<Integer> live() {
      return new ArrayList<>(live.keySet());
    }

    List<Integer> liveOf(int cache) {
      List<Integer> addresses = new ArrayList<>();
      for (Thing thing : live.values()) {
        if (thing.home.cache.number == cache) {
          addresses.add(thing.address);
        }
      }
      return addresses;
    }

    int tagOf(int cache) {
      return cache >= 0 && cache < caches.size() ? caches.get(cache).tag : 0;
    }

    private List<Slab> slabs() {
      List<Slab> all = new ArrayList<>();
      for (Cache cache : caches) {
        for (LinkedList<Slab> list : cache.lists) {
          all.addAll(list);
        }
      }
      return all;
    }

    private Slab slabOver(int address) {
      for (Slab slab : slabs()) {
        if (address >= slab.page * 1024 && address < (slab.page + (1 << slab.cache.order)) * 1024) {
          return slab;
        }
      }
      return null;
    }

    private Thing liveAt(int address) {
      if (!live.containsKey(address)) {
        throw new NoSuchElementException();
      }
      return live.get(address);
    }

    private Cache known(int cache) {
      if (cache < 0 || cache >= caches.size() || caches.get(cache).dropped) {
        throw new NoSuchElementException();
      }
      return caches.get(cache);
    }

    private static void requireProcessor(int processor) {
      if (processor < 0 || processor > 3) {
        throw new IllegalArgumentException();
      }
    }

    private Thing fromTheSlabs(Cache cache) {
      Slab source = cache.lists.get(1).peekFirst();
      source = source == null ? cache.lists.get(2).peekFirst() : source;
      if (source == null) {
        int page = take(cache.order);
        if (page == -1) {
          reap();
          page = take(cache.order);
        }
        if (page == -1) {
          return null;
        }
        source = new Slab(cache, page, cache.next);
        cache.next = (cache.next + 1) % (cache.spare / cache.align + 1);
      }
      Thing taken = source.row.removeFirst();
      cache.change(source);
      return taken;
    }

    private void back(Thing thing) {
      thing.home.row.addFirst(thing);
      thing.home.cache.change(thing.home);
    }

    private int backAll(List<Thing> magazine) {
      int sum = 0;
      while (!magazine.isEmpty()) {
        back(magazine.remove(magazine.size() - 1));
        sum++;
      }
      return sum;
    }

    private int take(int order) {
      if (order > 6) {
        return -1;
      }
      if (!free.get(order).isEmpty()) {
        return free.get(order).pollFirst();
      }
      int page = take(order + 1);
      if (page != -1) {
        free.get(order).add(page + (1 << order));
      }
      return page;
    }

    private void give(int page, int order) {
      int length = 1 << order;
      int other = page / length % 2 == 0 ? page + length : page - length;
      if (order < 6 && free.get(order).remove(other)) {
        give(Math.min(page, other), order + 1);
      } else {
        free.get(order).add(page);
      }
    }
  }
}
