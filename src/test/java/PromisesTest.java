/** Each promise by hand: ordinary inputs, the edges that the document names, and wrong inputs. */
public final class PromisesTest extends HouseTest {
  public static void main(String[] args) {
    newObject();
    cacheNumbersAndShapes();
    cacheRefuses();
    drop();
    dropRefuses();
    allocateFromSlabs();
    allocateFromMagazines();
    allocateWithoutMemory();
    allocateGivesBackEmptySlabsFirst();
    freeIntoMagazines();
    freeIntoSlabs();
    freeRefuses();
    mark();
    flush();
    empty();
    reap();
    cacheOf();
    objectOf();
    about();
    list();
    partialKeepsItsPlace();
    slab();
    magazine();
    block();
    pages();
    throwingChangesNothing();
    end();
  }

  /** A house with one cache of objects of 256 bytes, four in a slab of one page, and tag 5. */
  private static void beginWithFours(String name) {
    begin(name);
    due(0, "cache", 256, 8, 0, 5);
  }

  /** Objects are taken from object 0 of page 0 on, 256 bytes apart. */
  private static void allocateFours(int from, int behind) {
    for (int i = from; i < behind; i++) {
      due(256 * i, "allocate", 0, 0);
    }
  }

  private static void freeFours(int from, int behind, int processor) {
    for (int i = from; i < behind; i++) {
      due(0, "free", 256 * i, processor);
    }
  }

  private static void newObject() {
    begin("1 new object");
    due(256, "pages", 0);
    due(0, "pages", 1);
    for (int order = 0; order < 6; order++) {
      due(NONE, "block", order, 0);
    }
    for (int k = 0; k < 4; k++) {
      due(64 * k, "block", 6, k);
    }
    due(NONE, "block", 6, 4);
    for (int cache = 0; cache < 8; cache++) {
      due(NO_SUCH, "about", cache, 0);
    }
    due(NONE, "cacheOf", 0);
    due(0, "reap");
    begin("1 new object: it shares nothing with another");
    SlabHouse other = new SlabHouse();
    other.cache(8, 8, 0, 0);
    other.allocate(0, 0);
    due(256, "pages", 0);
    due(NO_SUCH, "allocate", 0, 0);
  }

  private static void cacheNumbersAndShapes() {
    begin("2 cache");
    due(0, "cache", 8, 8, 0, 0);
    due(1, "cache", 4096, 64, 2, -1);
    due(2, "cache", 8, 64, 3, LEAST);
    due(3, "cache", 1024, 16, 0, MOST);
    due(4, "cache", 1000, 64, 0, 0);
    due(5, "cache", 72, 32, 1, 0);
    due(6, "cache", 8, 8, 0, 0);
    due(7, "cache", 8, 8, 0, 0);
    due(NONE, "cache", 8, 8, 0, 0);
    due(0, "drop", 7);
    goOn("2 cache: a dropped one's number is never told again");
    due(NONE, "cache", 8, 8, 0, 0);
    due(ARGUMENT, "cache", 9, 8, 0, 0);
  }

  private static void cacheRefuses() {
    begin("2 cache: what is not as said");
    for (int size : new int[] {LEAST, -8, 0, 4, 7, 9, 12, 4095, 4097, 4104, MOST}) {
      due(ARGUMENT, "cache", size, 8, 3, 0);
    }
    for (int align : new int[] {LEAST, -8, 0, 1, 4, 9, 12, 24, 48, 65, 128, MOST}) {
      due(ARGUMENT, "cache", 64, align, 3, 0);
    }
    for (int order : new int[] {LEAST, -1, 4, 6, 32, MOST}) {
      due(ARGUMENT, "cache", 64, 8, order, 0);
    }
    due(ARGUMENT, "cache", 1032, 8, 0, 0);
    due(ARGUMENT, "cache", 2056, 8, 1, 0);
    due(ARGUMENT, "cache", 4096, 8, 1, 0);
    due(0, "cache", 4096, 8, 2, 0);
    due(1, "cache", 4096, 8, 3, 0);
    due(2, "cache", 1024, 64, 0, 0);
    due(3, "cache", 2048, 64, 1, 0);
    for (int number = 4; number < 8; number++) {
      due(number, "cache", 8, 8, 0, 0);
    }
    due(ARGUMENT, "cache", 1032, 8, 0, 0);
    due(ARGUMENT, "cache", 8, 8, 4, 0);
    due(NONE, "cache", 8, 8, 0, 0);
  }

  private static void drop() {
    begin("3 drop");
    due(0, "cache", 512, 8, 1, 0);
    due(1, "cache", 1024, 8, 0, 0);
    due(0, "allocate", 0, 0);
    due(2048, "allocate", 1, 0);
    for (int i = 1; i < 4; i++) {
      due(512 * i, "allocate", 0, 0);
    }
    due(4096, "allocate", 0, 0);
    for (int i = 0; i < 4; i++) {
      due(0, "free", 512 * i, i);
    }
    due(0, "free", 4096, 0);
    due(4, "drop", 0);
    due(255, "pages", 0);
    due(0, "block", 1, 0);
    due(NONE, "cacheOf", 0);
    due(NONE, "cacheOf", 4096);
    due(1, "cacheOf", 2048);
    due(NO_SUCH, "about", 0, 0);
    due(NO_SUCH, "allocate", 0, 0);
    due(NO_SUCH, "empty", 0);
    due(NO_SUCH, "list", 0, 0, 0);
    due(NO_SUCH, "magazine", 0, 0, 0);
    due(NO_SUCH, "drop", 0);
    due(0, "flush", 0);
    due(2, "cache", 8, 8, 0, 0);
    due(1, "free", 2048, 0);
    due(1, "drop", 1);
    due(0, "drop", 2);
    due(192, "block", 6, 3);
    goOn("3 drop: with a full depot");
    due(3, "cache", 1024, 8, 0, 0);
    for (int i = 0; i < 24; i++) {
      due(1024 * i, "allocate", 3, 0);
    }
    for (int i = 0; i < 24; i++) {
      due(3, "free", 1024 * i, 0);
    }
    due(24, "drop", 3);
    due(256, "pages", 0);
  }

  private static void dropRefuses() {
    beginWithFours("3 drop: what it refuses");
    for (int cache : new int[] {LEAST, -1, 1, 7, 8, MOST}) {
      due(NO_SUCH, "drop", cache);
    }
    allocateFours(0, 2);
    due(STATE, "drop", 0);
    due(0, "free", 0, 0);
    due(STATE, "drop", 0);
    due(1, "about", 0, 5);
    due(1, "magazine", 0, 0, 0);
    due(0, "free", 256, 0);
    due(1, "drop", 0);
  }

  private static void allocateFromSlabs() {
    begin("4 allocate: colours");
    due(0, "cache", 320, 32, 0, 0);
    int[] colours = {0, 1, 2, 0, 1};
    for (int slab = 0; slab < colours.length; slab++) {
      due(colours[slab], "about", 0, 3);
      for (int i = 0; i < 3; i++) {
        due(1024 * slab + 32 * colours[slab] + 320 * i, "allocate", 0, slab % 4);
      }
    }
    begin("4 allocate: the stride is rounded up to the align");
    due(0, "cache", 72, 64, 0, 0);
    due(0, "allocate", 0, 0);
    due(128, "allocate", 0, 0);
    begin("4 allocate: slabs are blocks, the least and lowest one is halved");
    due(0, "cache", 1024, 8, 0, 0);
    due(1, "cache", 4096, 8, 3, 0);
    due(2, "cache", 2048, 8, 1, 0);
    due(0, "allocate", 0, 0);
    due(8192, "allocate", 1, 0);
    due(2048, "allocate", 2, 0);
    due(1024, "allocate", 0, 0);
    due(4096, "allocate", 0, 0);
    due(6144, "allocate", 2, 0);
    beginWithFours("4 allocate: the first partial slab, before an empty one");
    allocateFours(0, 12);
    freeFours(0, 4, 0);
    freeFours(4, 6, 1);
    due(4, "flush", 0);
    due(2, "flush", 1);
    due(0, "list", 0, 2, 0);
    due(1024, "list", 0, 1, 0);
    due(1024, "allocate", 0, 0);
    due(1280, "allocate", 0, 0);
    goOn("4 allocate: then the first empty slab, before a new one");
    due(0, "allocate", 0, 0);
    due(256, "allocate", 0, 0);
    due(3, "about", 0, 4);
  }

  private static void allocateFromMagazines() {
    beginWithFours("4 allocate: what came last is taken first");
    allocateFours(0, 28);
    freeFours(0, 3, 1);
    due(512, "allocate", 0, 1);
    due(256, "allocate", 0, 1);
    goOn("4 allocate: magazines are a processor's own");
    due(256 * 28, "allocate", 0, 2);
    due(0, "allocate", 0, 1);
    goOn("4 allocate: loaded, then previous, then the depot");
    freeFours(0, 14, 0);
    due(2, "magazine", 0, 0, 0);
    due(4, "magazine", 0, 0, 1);
    due(2, "magazine", 0, 0, 2);
    due(256 * 13, "allocate", 0, 0);
    due(256 * 12, "allocate", 0, 0);
    due(0, "magazine", 0, 0, 0);
    due(4, "magazine", 0, 0, 1);
    due(256 * 11, "allocate", 0, 0);
    due(3, "magazine", 0, 0, 0);
    due(0, "magazine", 0, 0, 1);
    goOn("4 allocate: another processor takes from the depot, the last one first");
    due(256 * 7, "allocate", 0, 3);
    due(3, "magazine", 0, 3, 0);
    due(1, "magazine", 0, 3, 2);
    goOn("4 allocate: of the cache's own magazines");
    due(1, "cache", 8, 8, 0, 0);
    due(8192, "allocate", 1, 0);
    goOn("4 allocate: what it refuses");
    for (int cache : new int[] {LEAST, -1, 2, 7, 8, MOST}) {
      due(NO_SUCH, "allocate", cache, 0);
      due(NO_SUCH, "allocate", cache, 4);
    }
    for (int processor : new int[] {LEAST, -1, 4, MOST}) {
      due(ARGUMENT, "allocate", 0, processor);
    }
  }

  private static void allocateWithoutMemory() {
    begin("4 allocate: no object");
    due(0, "cache", 4096, 8, 3, 0);
    due(1, "cache", 8, 8, 0, 0);
    for (int i = 0; i < 64; i++) {
      due(4096 * i, "allocate", 0, 0);
    }
    due(0, "pages", 0);
    due(NONE, "allocate", 1, 0);
    due(NONE, "allocate", 1, 3);
    due(NONE, "allocate", 0, 0);
    due(2, "about", 1, 7);
    due(1, "about", 0, 7);
    due(0, "about", 1, 3);
    due(0, "about", 1, 4);
    due(0, "about", 1, 5);
    goOn("4 allocate: what other magazines have is not to be had");
    due(0, "free", 0, 0);
    due(NONE, "allocate", 0, 1);
    due(0, "allocate", 0, 0);
  }

  private static void allocateGivesBackEmptySlabsFirst() {
    begin("4 allocate: empty slabs are given back where there is no block");
    due(0, "cache", 4096, 8, 2, 0);
    due(1, "cache", 4096, 8, 3, 0);
    for (int i = 0; i < 64; i++) {
      due(4096 * i, "allocate", 0, 0);
    }
    due(0, "free", 4096 * 2, 0);
    due(0, "free", 4096 * 4, 0);
    due(2, "flush", 0);
    due(NONE, "allocate", 1, 0);
    due(8, "pages", 0);
    due(NONE, "list", 0, 2, 0);
    due(8, "block", 2, 0);
    due(16, "block", 2, 1);
    due(0, "free", 4096 * 5, 0);
    due(0, "free", 4096 * 9, 0);
    due(2, "flush", 0);
    due(4096 * 4, "allocate", 1, 0);
    due(4096 * 5, "allocate", 1, 0);
    due(1, "about", 1, 7);
    due(8, "block", 2, 0);
    due(36, "block", 2, 1);
    goOn("4 allocate: a slab of its own comes before a new one");
    due(4096 * 2, "allocate", 0, 0);
    due(4096 * 9, "allocate", 0, 0);
    due(0, "pages", 0);
  }

  private static void freeIntoMagazines() {
    beginWithFours("5 free");
    due(1, "cache", 8, 8, 0, 9);
    allocateFours(0, 24);
    due(6144, "allocate", 1, 2);
    due(1, "free", 6144, 3);
    due(1, "magazine", 1, 3, 0);
    freeFours(0, 4, 2);
    due(4, "magazine", 0, 2, 0);
    due(0, "magazine", 0, 2, 1);
    freeFours(4, 5, 2);
    due(1, "magazine", 0, 2, 0);
    due(4, "magazine", 0, 2, 1);
    freeFours(5, 8, 2);
    due(0, "magazine", 0, 2, 2);
    freeFours(8, 9, 2);
    due(1, "magazine", 0, 2, 0);
    due(4, "magazine", 0, 2, 1);
    due(1, "magazine", 0, 2, 2);
    goOn("5 free: previous is not full, so they change places");
    due(2048, "allocate", 0, 2);
    due(1792, "allocate", 0, 2);
    freeFours(7, 9, 2);
    due(1, "magazine", 0, 2, 0);
    due(4, "magazine", 0, 2, 1);
    due(1, "magazine", 0, 2, 2);
    goOn("5 free: previous goes to the depot, so its objects are not the processor's");
    due(2048, "allocate", 0, 2);
    due(1792, "allocate", 0, 2);
    due(768, "allocate", 0, 1);
    due(0, "magazine", 0, 0, 2);
    goOn("5 free: they stay out of the slab's free ones");
    due(4, "slab", 0, 2);
    due(NONE, "slab", 0, 3);
  }

  private static void freeIntoSlabs() {
    beginWithFours("5 free: into the slab when all is full");
    allocateFours(0, 28);
    freeFours(0, 20, 0);
    due(3, "magazine", 0, 0, 2);
    due(20, "about", 0, 6);
    freeFours(20, 22, 0);
    due(20, "about", 0, 6);
    due(6, "about", 0, 5);
    due(1, "slab", 5120, 3);
    due(2, "slab", 5120, 2);
    due(5120, "list", 0, 1, 0);
    goOn("5 free: another processor has magazines of its own");
    freeFours(22, 23, 1);
    due(1, "magazine", 0, 1, 0);
    due(2, "slab", 5120, 2);
    goOn("5 free: the one that came back is first");
    due(5632, "allocate", 0, 1);
    for (int i = 11; i >= 8; i--) {
      due(256 * i, "allocate", 0, 1);
    }
  }

  private static void freeRefuses() {
    beginWithFours("5 free: what it refuses");
    allocateFours(0, 2);
    for (int address : new int[] {LEAST, -256, -1, 1, 128, 255, 257, 512, 1024, 262143, 262144, MOST}) {
      due(NO_SUCH, "free", address, 0);
      due(NO_SUCH, "free", address, 4);
    }
    due(5, "mark", 0, 6);
    for (int processor : new int[] {LEAST, -1, 4, MOST}) {
      due(ARGUMENT, "free", 0, processor);
      due(ARGUMENT, "free", 256, processor);
    }
    due(STATE, "free", 0, 0);
    due(STATE, "free", 0, 3);
    due(6, "mark", 0, 5);
    due(0, "free", 0, 0);
    due(NO_SUCH, "free", 0, 0);
    due(1, "flush", 0);
    due(NO_SUCH, "free", 0, 0);
    goOn("5 free: spare bytes before the first object");
    due(1, "cache", 1000, 8, 0, 0);
    due(1024, "allocate", 1, 0);
    due(2056, "allocate", 1, 0);
    due(NO_SUCH, "free", 2048, 0);
    due(1, "free", 2056, 0);
  }

  private static void mark() {
    beginWithFours("6 mark");
    allocateFours(0, 3);
    due(5, "mark", 256, LEAST);
    due(LEAST, "mark", 256, MOST);
    due(MOST, "mark", 256, 5);
    due(5, "mark", 0, 1);
    due(5, "mark", 512, 2);
    due(5, "mark", 256, 5);
    due(1, "mark", 0, 5);
    for (int address : new int[] {LEAST, -1, 1, 255, 768, 1024, 262143, 262144, MOST}) {
      due(NO_SUCH, "mark", address, 5);
    }
    due(0, "free", 256, 0);
    due(NO_SUCH, "mark", 256, 5);
    goOn("6 mark: an object keeps its tag");
    due(256, "allocate", 0, 0);
    due(5, "mark", 256, 5);
    due(0, "free", 256, 0);
    due(1, "flush", 0);
    due(256, "allocate", 0, 1);
    due(5, "mark", 256, 5);
  }

  private static void flush() {
    beginWithFours("7 flush");
    due(1, "cache", 512, 8, 0, 0);
    allocateFours(0, 8);
    due(2048, "allocate", 1, 0);
    due(2560, "allocate", 1, 0);
    freeFours(0, 6, 0);
    due(1, "free", 2048, 0);
    due(1, "free", 2560, 1);
    due(7, "flush", 0);
    due(0, "flush", 0);
    due(0, "magazine", 0, 0, 0);
    due(0, "magazine", 0, 0, 1);
    due(0, "magazine", 1, 0, 0);
    due(1, "magazine", 1, 1, 0);
    due(0, "about", 0, 6);
    due(0, "slab", 2048, 3);
    goOn("7 flush: loaded first, what came last first");
    due(0, "slab", 0, 3);
    due(0, "slab", 1024, 3);
    due(0, "list", 0, 2, 0);
    due(1024, "list", 0, 1, 0);
    beginWithFours("7 flush: the order within a slab");
    allocateFours(0, 8);
    due(0, "free", 0, 2);
    due(0, "free", 512, 2);
    due(0, "free", 1024, 2);
    due(0, "free", 1280, 2);
    due(0, "free", 256, 2);
    due(1, "magazine", 0, 2, 0);
    due(5, "flush", 2);
    due(1024, "allocate", 0, 0);
    due(1280, "allocate", 0, 0);
    due(0, "allocate", 0, 0);
    due(512, "allocate", 0, 0);
    due(256, "allocate", 0, 0);
    goOn("7 flush: the depot stays as it is");
    freeFours(0, 6, 3);
    due(256 * 8, "allocate", 0, 1);
    freeFours(6, 9, 3);
    due(5, "flush", 3);
    due(1, "magazine", 0, 3, 2);
    goOn("7 flush: what it refuses");
    for (int processor : new int[] {LEAST, -1, 4, MOST}) {
      due(ARGUMENT, "flush", processor);
    }
  }

  private static void empty() {
    beginWithFours("8 empty");
    due(0, "empty", 0);
    allocateFours(0, 20);
    freeFours(0, 20, 0);
    due(3, "magazine", 0, 0, 2);
    due(12, "empty", 0);
    due(0, "magazine", 0, 0, 2);
    due(4, "magazine", 0, 0, 0);
    due(4, "magazine", 0, 0, 1);
    due(8, "about", 0, 6);
    goOn("8 empty: the one that came last first, so its slab is last of the list");
    due(0, "list", 0, 2, 0);
    due(1024, "list", 0, 2, 1);
    due(2048, "list", 0, 2, 2);
    due(NONE, "list", 0, 2, 3);
    due(0, "empty", 0);
    goOn("8 empty: what came last first, so the slab's row begins with what came first");
    due(1, "cache", 8, 8, 0, 0);
    for (int i = 0; i < 9; i++) {
      due(5120 + 8 * i, "allocate", 1, 1);
    }
    for (int i : new int[] {3, 1, 2, 0, 4, 5, 6, 7, 8}) {
      due(1, "free", 5120 + 8 * i, 1);
    }
    due(4, "empty", 1);
    for (int i : new int[] {3, 1, 2, 0, 9}) {
      due(5120 + 8 * i, "allocate", 1, 0);
    }
    goOn("8 empty: what it refuses");
    for (int cache : new int[] {LEAST, -1, 2, 7, 8, MOST}) {
      due(NO_SUCH, "empty", cache);
    }
  }

  private static void reap() {
    begin("9 reap");
    due(0, "reap");
    due(0, "cache", 512, 8, 0, 0);
    due(1, "cache", 4096, 8, 3, 0);
    for (int i = 0; i < 5; i++) {
      due(512 * i, "allocate", 0, 0);
    }
    due(8192, "allocate", 1, 0);
    due(0, "free", 0, 0);
    due(0, "free", 512, 0);
    due(0, "free", 1024, 0);
    due(1, "free", 8192, 0);
    due(0, "reap");
    due(4, "flush", 0);
    due(9, "reap");
    due(254, "pages", 0);
    due(2, "pages", 1);
    due(2, "about", 0, 4);
    due(0, "about", 1, 4);
    due(NONE, "list", 0, 2, 0);
    due(NONE, "list", 1, 2, 0);
    due(NONE, "cacheOf", 0);
    due(0, "cacheOf", 1024);
    due(NONE, "cacheOf", 8192 + 4096);
    due(0, "reap");
    goOn("9 reap: a slab made behind it is new");
    due(1024, "allocate", 0, 0);
    due(2560, "allocate", 0, 0);
    due(0, "allocate", 0, 2);
    due(512, "allocate", 0, 2);
    due(3072, "allocate", 0, 2);
    goOn("9 reap: the colour goes on");
    due(2, "cache", 1000, 8, 0, 0);
    due(4096, "allocate", 2, 0);
    due(2, "free", 4096, 0);
    due(1, "flush", 0);
    due(1, "reap");
    due(1, "about", 2, 3);
    due(4104, "allocate", 2, 0);
  }

  private static void cacheOf() {
    begin("10 cacheOf");
    due(0, "cache", 72, 64, 0, 0);
    due(1, "cache", 4096, 8, 3, 0);
    due(0, "allocate", 0, 0);
    due(8192, "allocate", 1, 0);
    due(0, "cacheOf", 0);
    due(0, "cacheOf", 100);
    due(0, "cacheOf", 1023);
    due(NONE, "cacheOf", 1024);
    due(NONE, "cacheOf", 8191);
    due(1, "cacheOf", 8192);
    due(1, "cacheOf", 16383);
    due(NONE, "cacheOf", 16384);
    for (int address : new int[] {LEAST, -1, -1024, 262143, 262144, MOST}) {
      due(NONE, "cacheOf", address);
    }
    due(0, "free", 0, 0);
    due(0, "cacheOf", 0);
    due(1, "flush", 0);
    due(0, "cacheOf", 0);
    due(1, "reap");
    due(NONE, "cacheOf", 0);
  }

  private static void objectOf() {
    begin("11 objectOf");
    due(0, "cache", 328, 64, 0, 0);
    due(0, "allocate", 0, 0);
    due(384, "allocate", 0, 0);
    due(1088, "allocate", 0, 0);
    due(0, "objectOf", 0);
    due(0, "objectOf", 327);
    due(NONE, "objectOf", 328);
    due(NONE, "objectOf", 383);
    due(384, "objectOf", 384);
    due(384, "objectOf", 711);
    due(NONE, "objectOf", 712);
    due(NONE, "objectOf", 1023);
    goOn("11 objectOf: spare bytes before the first object");
    due(NONE, "objectOf", 1024);
    due(NONE, "objectOf", 1087);
    due(1088, "objectOf", 1088);
    due(1088, "objectOf", 1415);
    goOn("11 objectOf: one that is not live");
    due(NONE, "objectOf", 1472);
    due(0, "free", 384, 0);
    due(NONE, "objectOf", 384);
    due(1, "flush", 0);
    due(NONE, "objectOf", 400);
    due(0, "objectOf", 10);
    for (int address : new int[] {LEAST, -1, 2048, 262143, 262144, MOST}) {
      due(NONE, "objectOf", address);
    }
  }

  private static void about() {
    begin("12 about");
    due(0, "cache", 328, 64, 0, 0);
    due(1, "cache", 8, 8, 3, 0);
    due(2, "cache", 4096, 64, 2, 0);
    due(3, "cache", 72, 16, 1, 0);
    due(4, "cache", 520, 8, 0, 0);
    dueAbout(0, 384, 2, 5, 0, 0, 0, 0, 0);
    dueAbout(1, 8, 1024, 1, 0, 0, 0, 0, 0);
    dueAbout(2, 4096, 1, 1, 0, 0, 0, 0, 0);
    dueAbout(3, 80, 25, 4, 0, 0, 0, 0, 0);
    dueAbout(4, 520, 1, 64, 0, 0, 0, 0, 0);
    for (int i = 0; i < 11; i++) {
      answer("allocate", 0, 0);
    }
    dueAbout(0, 384, 2, 5, 1, 6, 11, 0, 0);
    for (int slab = 0; slab < 5; slab++) {
      due(0, "free", 1024 * slab + 64 * slab, 0);
      due(0, "free", 1024 * slab + 64 * slab + 384, 0);
    }
    dueAbout(0, 384, 2, 5, 1, 6, 1, 10, 0);
    due(6, "flush", 0);
    dueAbout(0, 384, 2, 5, 1, 6, 1, 4, 0);
    due(3, "reap");
    dueAbout(0, 384, 2, 5, 1, 3, 1, 4, 0);
    goOn("12 about: what it refuses");
    for (int what : new int[] {LEAST, -1, 8, MOST}) {
      due(ARGUMENT, "about", 0, what);
      due(NO_SUCH, "about", 5, what);
    }
    for (int cache : new int[] {LEAST, -1, 5, 7, 8, MOST}) {
      due(NO_SUCH, "about", cache, 0);
    }
  }

  private static void list() {
    beginWithFours("13 list");
    for (int which = 0; which < 3; which++) {
      due(NONE, "list", 0, which, 0);
    }
    allocateFours(0, 13);
    due(2048, "list", 0, 0, 0);
    due(1024, "list", 0, 0, 1);
    due(0, "list", 0, 0, 2);
    due(NONE, "list", 0, 0, 3);
    due(3072, "list", 0, 1, 0);
    due(NONE, "list", 0, 1, 1);
    due(NONE, "list", 0, 2, 0);
    goOn("13 list: a slab that changes comes first");
    due(0, "free", 1024, 0);
    due(0, "free", 0, 0);
    due(2, "flush", 0);
    due(1024, "list", 0, 1, 0);
    due(0, "list", 0, 1, 1);
    due(3072, "list", 0, 1, 2);
    due(2048, "list", 0, 0, 0);
    due(NONE, "list", 0, 0, 1);
    goOn("13 list: one that stays partial keeps its place");
    due(0, "free", 256, 0);
    due(1, "flush", 0);
    due(1024, "list", 0, 1, 0);
    due(0, "list", 0, 1, 1);
    due(3072, "list", 0, 1, 2);
    due(1024, "allocate", 0, 0);
    due(1024, "list", 0, 0, 0);
    due(2048, "list", 0, 0, 1);
    due(256, "allocate", 0, 0);
    due(0, "list", 0, 1, 0);
    goOn("13 list: a mark and a magazine leave the slab as it is");
    due(0, "free", 256 * 12, 0);
    due(5, "mark", 256 * 12 - 256, 5);
    due(0, "list", 0, 1, 0);
    due(3072, "list", 0, 1, 1);
    due(NONE, "list", 0, 1, 2);
    goOn("13 list: empty ones");
    due(1, "flush", 0);
    due(3072, "list", 0, 2, 0);
    freeFours(1, 5, 0);
    due(4, "flush", 0);
    due(0, "list", 0, 2, 0);
    due(3072, "list", 0, 2, 1);
    due(1024, "list", 0, 1, 0);
    due(NONE, "list", 0, 1, 1);
    goOn("13 list: there is none such");
    for (int k : new int[] {LEAST, -1, 2, 256, MOST}) {
      due(NONE, "list", 0, 2, k);
    }
    goOn("13 list: what it refuses");
    for (int which : new int[] {LEAST, -1, 3, MOST}) {
      due(ARGUMENT, "list", 0, which, 0);
      due(NO_SUCH, "list", 1, which, 0);
    }
    for (int cache : new int[] {LEAST, -1, 1, 7, 8, MOST}) {
      due(NO_SUCH, "list", cache, 0, 0);
    }
    goOn("13 list: a slab of one object is full at once");
    due(1, "cache", 1024, 8, 0, 0);
    due(4096, "allocate", 1, 0);
    due(4096, "list", 1, 0, 0);
    due(NONE, "list", 1, 1, 0);
  }

  /** The whole list of the partial ones; NONE behind its end. */
  private static void duePartial(int first, int second, int third) {
    due(first, "list", 0, 1, 0);
    due(second, "list", 0, 1, 1);
    due(third, "list", 0, 1, 2);
    due(NONE, "list", 0, 1, 3);
  }

  private static void partialKeepsItsPlace() {
    beginWithFours("13 list: an object comes back by flush");
    allocateFours(0, 21);
    freeFours(1, 2, 0);
    freeFours(4, 5, 0);
    freeFours(0, 1, 0);
    due(3, "flush", 0);
    duePartial(1024, 0, 5120);
    due(1, "slab", 0, 3);
    due(2, "slab", 0, 2);
    due(1024, "allocate", 0, 0);
    due(256, "allocate", 0, 0);
    due(0, "allocate", 0, 0);
    due(5376, "allocate", 0, 0);

    beginWithFours("13 list: an object comes back by empty");
    allocateFours(0, 21);
    freeFours(1, 2, 0);
    freeFours(4, 5, 0);
    freeFours(2, 3, 0);
    freeFours(0, 1, 0);
    freeFours(8, 13, 0);
    due(1, "magazine", 0, 0, 2);
    due(4, "empty", 0);
    duePartial(1024, 0, 5120);
    due(1, "slab", 0, 3);
    due(1, "slab", 0, 2);
    due(1024, "allocate", 0, 1);
    due(256, "allocate", 0, 1);

    beginWithFours("13 list: an object comes back by free, as all magazines are full");
    allocateFours(0, 33);
    freeFours(8, 28, 0);
    due(3, "magazine", 0, 0, 2);
    freeFours(0, 1, 0);
    duePartial(0, 8192, NONE);
    freeFours(4, 5, 0);
    duePartial(1024, 0, 8192);
    freeFours(1, 3, 0);
    duePartial(1024, 0, 8192);
    goOn("13 list: it leaves its place when it is empty, and comes first");
    freeFours(32, 33, 0);
    freeFours(3, 4, 0);
    duePartial(1024, NONE, NONE);
    due(0, "list", 0, 2, 0);
    due(8192, "list", 0, 2, 1);
  }

  private static void slab() {
    begin("14 slab");
    due(0, "cache", 1000, 8, 1, 0);
    due(0, "allocate", 0, 0);
    dueSlab(0, 0, 0, 1, 1);
    dueSlab(2047, 0, 0, 1, 1);
    due(1000, "allocate", 0, 0);
    dueSlab(1024, 0, 0, 2, NONE);
    due(2056, "allocate", 0, 0);
    dueSlab(2048, 2048, 1, 1, 1);
    goOn("14 slab: one in a magazine is not free");
    due(0, "free", 0, 0);
    due(0, "free", 1000, 0);
    dueSlab(5, 0, 0, 2, NONE);
    goOn("14 slab: the one that came back is first");
    due(2, "flush", 0);
    dueSlab(5, 0, 0, 0, 0);
    due(3056, "allocate", 0, 0);
    due(0, "allocate", 0, 0);
    dueSlab(5, 0, 0, 1, 1);
    goOn("14 slab: what it refuses");
    for (int what : new int[] {LEAST, -1, 4, MOST}) {
      due(ARGUMENT, "slab", 0, what);
      due(NO_SUCH, "slab", 4096, what);
    }
    for (int address : new int[] {LEAST, -1, 4096, 262143, 262144, MOST}) {
      due(NO_SUCH, "slab", address, 0);
    }
  }

  private static void magazine() {
    beginWithFours("15 magazine");
    for (int processor = 0; processor < 4; processor++) {
      for (int what = 0; what < 3; what++) {
        due(0, "magazine", 0, processor, what);
      }
    }
    allocateFours(0, 24);
    freeFours(0, 11, 0);
    due(3, "magazine", 0, 0, 0);
    due(4, "magazine", 0, 0, 1);
    due(1, "magazine", 0, 0, 2);
    freeFours(11, 13, 3);
    due(2, "magazine", 0, 3, 0);
    due(0, "magazine", 0, 3, 1);
    goOn("15 magazine: the depot is the cache's, for all processors");
    due(1, "magazine", 0, 3, 2);
    freeFours(13, 24, 3);
    due(1, "magazine", 0, 3, 0);
    due(4, "magazine", 0, 3, 1);
    due(3, "magazine", 0, 0, 2);
    due(0, "magazine", 0, 1, 0);
    due(1, "cache", 8, 8, 0, 0);
    due(0, "magazine", 1, 3, 0);
    due(0, "magazine", 1, 3, 2);
    goOn("15 magazine: what it refuses");
    for (int other : new int[] {LEAST, -1, 4, MOST}) {
      due(ARGUMENT, "magazine", 0, other, 0);
      due(ARGUMENT, "magazine", 0, other, 2);
      due(ARGUMENT, "magazine", 0, 0, other);
      due(NO_SUCH, "magazine", other, 0, 0);
      due(NO_SUCH, "magazine", other, 4, 3);
    }
    due(ARGUMENT, "magazine", 0, 0, 3);
    due(NO_SUCH, "magazine", 2, 0, 0);
    due(NO_SUCH, "magazine", 8, 0, 0);
  }

  private static void block() {
    begin("16 block");
    due(0, "cache", 1024, 8, 0, 0);
    due(0, "allocate", 0, 0);
    for (int order = 0; order < 6; order++) {
      dueBlocks(order, 1 << order);
    }
    dueBlocks(6, 64, 128, 192);
    for (int i = 1; i < 8; i++) {
      due(1024 * i, "allocate", 0, 0);
    }
    dueBlocks(0);
    dueBlocks(2);
    dueBlocks(3, 8);
    goOn("16 block: halves that are free are one again, and only halves of one block");
    for (int page : new int[] {1, 2, 5}) {
      due(0, "free", 1024 * page, 0);
    }
    due(3, "flush", 0);
    due(3, "reap");
    dueBlocks(0, 1, 2, 5);
    dueBlocks(1);
    due(0, "free", 1024 * 3, 0);
    due(0, "free", 1024 * 4, 0);
    due(2, "flush", 0);
    due(2, "reap");
    dueBlocks(0, 1);
    dueBlocks(1, 2, 4);
    due(0, "free", 1024 * 6, 0);
    due(0, "free", 1024 * 7, 0);
    due(2, "flush", 0);
    due(2, "reap");
    dueBlocks(0, 1);
    dueBlocks(1, 2);
    dueBlocks(2, 4);
    dueBlocks(3, 8);
    due(0, "free", 0, 0);
    due(1, "flush", 0);
    due(1, "reap");
    for (int order = 0; order < 6; order++) {
      dueBlocks(order);
    }
    goOn("16 block: order 6 is the greatest");
    dueBlocks(6, 0, 64, 128, 192);
    for (int k : new int[] {LEAST, -1, 256, MOST}) {
      due(NONE, "block", 6, k);
      due(NONE, "block", 0, k);
    }
    goOn("16 block: what it refuses");
    for (int order : new int[] {LEAST, -1, 7, 32, MOST}) {
      due(ARGUMENT, "block", order, 0);
      due(ARGUMENT, "block", order, -1);
    }
  }

  private static void pages() {
    begin("17 pages");
    due(0, "cache", 8, 8, 3, 0);
    due(1, "cache", 8, 8, 1, 0);
    due(0, "allocate", 0, 0);
    due(248, "pages", 0);
    due(8, "pages", 1);
    due(8192, "allocate", 1, 0);
    due(246, "pages", 0);
    due(10, "pages", 1);
    due(0, "free", 0, 0);
    due(1, "flush", 0);
    due(246, "pages", 0);
    due(8, "reap");
    due(254, "pages", 0);
    due(2, "pages", 1);
    for (int what : new int[] {LEAST, -1, 2, 256, MOST}) {
      due(NONE, "pages", what);
    }
  }

  private static void throwingChangesNothing() {
    beginWithFours("a call that throws changes nothing");
    allocateFours(0, 4);
    freeFours(0, 1, 0);
    due(5, "mark", 256, 8);
    due(STATE, "free", 256, 0);
    due(STATE, "drop", 0);
    due(ARGUMENT, "allocate", 0, 4);
    due(ARGUMENT, "free", 512, -1);
    due(ARGUMENT, "flush", 4);
    due(ARGUMENT, "cache", 8, 8, 7, 0);
    due(3, "about", 0, 5);
    due(1, "about", 0, 6);
    due(0, "about", 0, 7);
    due(8, "mark", 256, 5);
    due(1, "cache", 8, 8, 0, 0);
    due(0, "allocate", 0, 0);
    due(512, "objectOf", 512);
  }
}
