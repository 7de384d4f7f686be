/** The edges that promises 1 to 17 name: a part for each sentence, called by the promise and its words. */
public final class PromiseEdgesTest extends HouseTest {
  public static void main(String[] args) {
    newObject();
    cacheNumber();
    cacheAfterEight();
    cacheRefusedBeforeNone();
    cacheWithoutAnObject();
    dropGivesBackAll();
    dropCountsPages();
    dropWithoutSlabs();
    dropOfNone();
    dropOfLive();
    allocateNone();
    allocateRefused();
    freeAnswersItsCache();
    freeOfNone();
    freeByNone();
    freeOfAnotherMark();
    markAnswersWhatItWas();
    markOfNone();
    flushOfOneProcessor();
    flushInOrder();
    flushCacheByCache();
    flushCounts();
    flushByNone();
    emptyInOrder();
    emptyCounts();
    emptyOfNone();
    reapAll();
    reapOnlyEmptyOnes();
    cacheOfASlab();
    objectOfItsSize();
    objectOfALiveOne();
    aboutShape();
    aboutNumbers();
    aboutMisses();
    aboutRefused();
    listPlaces();
    listRefused();
    slabFacts();
    slabRefused();
    magazineFacts();
    magazineRefused();
    blockPlaces();
    blockRefused();
    pagesOfEachKind();
    pagesOfAnother();
    end();
  }

  /** A new object with a cache 0 of objects of 256 bytes, four in a slab of one page, and tag 5. */
  private static void beginWithFours(String name) {
    begin(name);
    due(0, "cache", 256, 8, 0, 5);
  }

  /** Objects of cache 0 of 256 bytes, by their numbers from page 0 on. */
  private static void allocateFours(int from, int behind) {
    allocate(0, 0, steps(256 * from, 256, behind - from));
  }

  private static void freeFours(int from, int behind, int processor) {
    free(0, processor, steps(256 * from, 256, behind - from));
  }

  private static void newObject() {
    begin("1: No CACHES");
    for (int cache = 0; cache < 8; cache++) {
      due(NO_SUCH, "about", cache, 0);
      due(NO_SUCH, "allocate", cache, 0);
      due(NO_SUCH, "drop", cache);
      due(NO_SUCH, "empty", cache);
    }
    due(0, "flush", 0);
    due(0, "reap");
    begin("1: all MEMORY is free");
    due(256, "pages", 0);
    due(0, "pages", 1);
    dueBlocks(6, 0, 64, 128, 192);
    for (int page = 0; page < 256; page += 51) {
      due(NONE, "cacheOf", 1024 * page);
      due(NONE, "objectOf", 1024 * page);
      due(NO_SUCH, "slab", 1024 * page, 0);
      due(NO_SUCH, "free", 1024 * page, 0);
      due(NO_SUCH, "mark", 1024 * page, 0);
    }
  }

  private static void cacheNumber() {
    begin("2: A CACHE: its number");
    for (int number = 0; number < 8; number++) {
      due(ARGUMENT, "cache", 0, 8, 0, 0);
      due(number, "cache", 8, 8, 0, 0);
    }
    goOn("2: A CACHE: it has no SLAB at first");
    due(256, "pages", 0);
    dueAbout(7, 8, 128, 1, 0, 0, 0, 0, 0);
  }

  private static void cacheAfterEight() {
    begin("2: NONE if eight were told");
    for (int number = 0; number < 8; number++) {
      due(number, "cache", 64, 8, 0, number);
    }
    due(NONE, "cache", 8, 8, 0, 0);
    due(NONE, "cache", 4096, 64, 3, MOST);
    due(64, "about", 0, 0);
    due(64, "about", 7, 0);
    goOn("2: NONE if eight were told: all are dropped");
    for (int number = 0; number < 8; number++) {
      due(0, "drop", number);
    }
    due(NONE, "cache", 8, 8, 0, 0);
  }

  private static void cacheRefusedBeforeNone() {
    begin("2: IllegalArgument (before NONE)");
    for (int number = 0; number < 8; number++) {
      due(number, "cache", 8, 8, 0, 0);
    }
    due(ARGUMENT, "cache", 4, 8, 0, 0);
    due(ARGUMENT, "cache", 4104, 8, 3, 0);
    due(ARGUMENT, "cache", 8, 128, 0, 0);
    due(ARGUMENT, "cache", 8, 8, -1, 0);
    due(ARGUMENT, "cache", 8, 8, 4, 0);
    due(ARGUMENT, "cache", 1032, 8, 0, 0);
    due(NONE, "cache", 1024, 8, 0, 0);
  }

  private static void cacheWithoutAnObject() {
    begin("2: or a SLAB would have no OBJECT");
    for (int align : new int[] {8, 16, 32, 64}) {
      due(ARGUMENT, "cache", 1032, align, 0, 0);
      due(ARGUMENT, "cache", 4096, align, 0, 0);
      due(ARGUMENT, "cache", 2056, align, 1, 0);
      due(ARGUMENT, "cache", 4096, align, 1, 0);
    }
    due(0, "cache", 1024, 64, 0, 0);
    due(1, "cache", 1016, 64, 0, 0);
    due(2, "cache", 1032, 64, 1, 0);
    due(3, "cache", 2048, 64, 1, 0);
    due(4, "cache", 2056, 64, 2, 0);
    due(5, "cache", 4096, 64, 2, 0);
    due(6, "cache", 4096, 64, 3, 0);
    for (int cache : new int[] {0, 1, 2, 3, 4, 5}) {
      due(1, "about", cache, 1);
    }
  }

  private static void dropGivesBackAll() {
    beginWithFours("3: all that its MAGAZINES and DEPOT have comes back");
    due(1, "cache", 256, 8, 0, 5);
    allocateFours(0, 28);
    allocate(1, 0, 7 * 1024);
    free(1, 0, 7 * 1024);
    freeFours(0, 20, 0);
    freeFours(20, 26, 1);
    freeFours(26, 28, 3);
    dueMagazines(0, 0, 4, 4, 3);
    dueMagazines(0, 1, 2, 4, 3);
    due(7, "drop", 0);
    for (int page = 0; page < 7; page++) {
      due(NONE, "cacheOf", 1024 * page);
    }
    goOn("3: all that its MAGAZINES have comes back: no flush finds it, and other CACHES keep theirs");
    due(0, "flush", 3);
    due(0, "flush", 1);
    due(1, "cacheOf", 7 * 1024);
    dueMagazines(1, 0, 1, 0, 0);
    due(1, "flush", 0);
    goOn("3: all that its DEPOT has comes back: a next CACHE has a new one");
    due(2, "cache", 256, 8, 0, 5);
    dueMagazines(2, 0, 0, 0, 0);
    allocate(2, 0, 6 * 1024);
    goOn("3: its SLABS are given back");
    due(2, "pages", 1);
    dueBlocks(0);
    dueBlocks(1, 4);
    dueBlocks(2, 0);
    dueBlocks(3, 8);
  }

  private static void dropCountsPages() {
    begin("3: its SLABS are given back in the order of their pages: how many PAGES");
    for (int order = 0; order < 4; order++) {
      due(order, "cache", 512 << order, 8, order, 0);
    }
    allocate(0, 0, 0, 512, 1024);
    allocate(1, 0, 2048, 3072, 4096);
    allocate(2, 0, 8192, 10_240, 12_288);
    allocate(3, 0, 16_384, 20_480, 24_576);
    free(0, 0, 0, 512, 1024);
    free(1, 0, 2048, 3072, 4096);
    free(2, 0, 8192, 10_240, 12_288);
    free(3, 0, 16_384, 20_480, 24_576);
    due(16, "drop", 3);
    due(14, "pages", 1);
    due(4, "drop", 1);
    due(10, "pages", 1);
    due(2, "drop", 0);
    due(8, "drop", 2);
    due(0, "pages", 1);
    dueBlocks(6, 0, 64, 128, 192);
    goOn("3: its SLABS are given back: FULL, PARTIAL and EMPTY ones");
    due(4, "cache", 512, 8, 0, 0);
    allocate(4, 0, 0, 512, 1024, 1536, 2048);
    comeBack(4, 0, 512, 1024);
    free(4, 0, 1536, 2048);
    dueList(4, FULL);
    dueList(4, PARTIAL, 1024, 2048);
    dueList(4, EMPTY, 0);
    allocate(4, 0, 2048);
    allocate(4, 0, 1536, 1024);
    free(4, 0, 1024, 1536, 2048);
    dueList(4, FULL, 1024);
    due(3, "drop", 4);
    due(256, "pages", 0);
  }

  private static void dropWithoutSlabs() {
    begin("3: how many PAGES: none without a SLAB");
    due(0, "cache", 8, 8, 0, 0);
    due(0, "drop", 0);
    due(1, "cache", 8, 8, 3, 0);
    allocate(1, 0, 0);
    comeBack(1, 0);
    due(8, "reap");
    due(0, "drop", 1);
  }

  private static void dropOfNone() {
    begin("3: NoSuchElement: there is no such CACHE");
    due(0, "cache", 8, 8, 0, 0);
    dueForEach(NO_CACHE, 0, NO_SUCH, "drop", 0);
    due(NO_SUCH, "drop", 1);
    due(0, "drop", 0);
    due(NO_SUCH, "drop", 0);
  }

  private static void dropOfLive() {
    beginWithFours("3: IllegalState: an OBJECT of it is LIVE");
    due(1, "cache", 256, 8, 0, 5);
    allocateFours(0, 9);
    freeFours(0, 8, 1);
    due(1, "about", 0, 5);
    due(STATE, "drop", 0);
    goOn("3: an OBJECT of it is LIVE: of another CACHE does not count");
    due(0, "drop", 1);
    goOn("3: an OBJECT of it is LIVE: one in a magazine is not");
    free(0, 0, 256 * 8);
    due(3, "drop", 0);
    goOn("3: an OBJECT of it is LIVE: one that came of a magazine is again");
    due(2, "cache", 256, 8, 0, 5);
    allocate(2, 0, 0);
    free(2, 0, 0);
    allocate(2, 0, 0);
    due(STATE, "drop", 2);
    comeBack(2, 0);
    due(1, "drop", 2);
  }

  private static void allocateNone() {
    begin("4: NONE if there is no OBJECT");
    due(0, "cache", 4096, 8, 3, 0);
    due(1, "cache", 4096, 8, 3, 0);
    allocate(0, 0, steps(0, 4096, 63));
    due(NONE, "allocate", 1, 0);
    goOn("4: NONE if there is no OBJECT: the last one is to be had");
    allocate(0, 0, 63 * 4096);
    due(NONE, "allocate", 0, 0);
    due(NONE, "allocate", 0, 3);
    goOn("4: NONE if there is no OBJECT: again one, when one came back");
    comeBack(0, 4096 * 9);
    due(NONE, "allocate", 1, 0);
    allocate(0, 3, 4096 * 9);
    comeBack(0, 4096 * 9, 4096 * 8);
    allocate(1, 2, 4096 * 8);
    due(NONE, "allocate", 0, 0);
    due(3, "about", 0, 7);
    due(2, "about", 1, 7);
  }

  private static void allocateRefused() {
    beginWithFours("4: NoSuchElement");
    dueForEach(NO_CACHE, 0, NO_SUCH, "allocate", 0, 0);
    due(NO_SUCH, "allocate", 1, 0);
    due(1, "cache", 8, 8, 0, 0);
    due(0, "drop", 1);
    due(NO_SUCH, "allocate", 1, 0);
    goOn("4: IllegalArgument: there is no such PROCESSOR");
    dueForEach(NO_PROCESSOR, 1, ARGUMENT, "allocate", 0, 0);
    for (int processor = 0; processor < 4; processor++) {
      allocate(0, processor, 256 * processor);
    }
  }

  private static void freeAnswersItsCache() {
    begin("5: FREEING: its CACHE");
    for (int number = 0; number < 8; number++) {
      due(number, "cache", 1024, 8, 0, number);
    }
    for (int number = 7; number >= 0; number--) {
      allocate(number, 0, 1024 * (7 - number));
    }
    for (int number = 0; number < 8; number++) {
      due(number, "free", 1024 * (7 - number), number % 4);
    }
  }

  private static void freeOfNone() {
    begin("5: NoSuchElement: no LIVE OBJECT begins there");
    due(0, "cache", 312, 32, 0, 5);
    allocate(0, 0, 0, 320, 640, 1056, 1376);
    goOn("5: no LIVE OBJECT begins there: one goes over it");
    int[] within = {1, 8, 311, 321, 631, 641, 951, 1057, 1367, 1377};
    dueForEach(within, 0, NO_SUCH, "free", 0, 0);
    goOn("5: no LIVE OBJECT begins there: bytes of no OBJECT");
    int[] between = {312, 319, 632, 952, 960, 1023, 1024, 1055, 1368};
    dueForEach(between, 0, NO_SUCH, "free", 0, 0);
    goOn("5: no LIVE OBJECT begins there: a FREE one does, or would in a next SLAB");
    due(NO_SUCH, "free", 1696, 0);
    due(NO_SUCH, "free", 2016, 0);
    due(NO_SUCH, "free", 2048, 0);
    due(NO_SUCH, "free", 262_143, 0);
    dueForEach(OUTSIDE, 0, NO_SUCH, "free", 0, 0);
    goOn("5: no LIVE OBJECT begins there: one in a magazine does");
    free(0, 0, 320);
    due(NO_SUCH, "free", 320, 0);
    due(NO_SUCH, "free", 320, 1);
    due(1, "about", 0, 6);
    goOn("5: no LIVE OBJECT begins there: one that came back does");
    due(1, "flush", 0);
    due(NO_SUCH, "free", 320, 0);
    comeBack(0, 0, 640);
    due(1, "reap");
    due(NO_SUCH, "free", 0, 0);
    free(0, 0, 1056, 1376);
  }

  private static void freeByNone() {
    beginWithFours("5: IllegalArgument: there is no such PROCESSOR");
    allocateFours(0, 4);
    dueForEach(NO_PROCESSOR, 1, ARGUMENT, "free", 0, 0);
    for (int processor = 0; processor < 4; processor++) {
      free(0, processor, 256 * processor);
      dueMagazines(0, processor, 1, 0, 0);
    }
  }

  private static void freeOfAnotherMark() {
    begin("5: IllegalState: its MARK is not the TAG");
    due(0, "cache", 256, 8, 0, LEAST);
    due(1, "cache", 256, 8, 0, MOST);
    allocate(0, 0, 0, 256);
    allocate(1, 0, 1024);
    due(LEAST, "mark", 0, MOST);
    due(MOST, "mark", 1024, LEAST);
    due(STATE, "free", 0, 0);
    due(STATE, "free", 1024, 0);
    goOn("5: its MARK is not the TAG: another OBJECT's is");
    free(0, 0, 256);
    goOn("5: its MARK is not the TAG: it is again");
    due(MOST, "mark", 0, LEAST + 1);
    due(STATE, "free", 0, 0);
    due(LEAST + 1, "mark", 0, 0);
    due(STATE, "free", 0, 0);
    due(0, "mark", 0, LEAST);
    free(0, 0, 0);
    due(STATE, "free", 1024, 3);
    due(LEAST, "mark", 1024, MOST);
    free(1, 3, 1024);
  }

  private static void markAnswersWhatItWas() {
    beginWithFours("6: A LIVE OBJECT's MARK: what it was");
    allocateFours(0, 5);
    due(5, "mark", 0, LEAST);
    due(LEAST, "mark", 0, MOST);
    due(MOST, "mark", 0, 0);
    due(0, "mark", 0, -1);
    due(-1, "mark", 0, -1);
    due(-1, "mark", 0, 5);
    goOn("6: A LIVE OBJECT's MARK: each has its own");
    for (int i = 0; i < 5; i++) {
      due(5, "mark", 256 * i, 100 + i);
    }
    for (int i = 0; i < 5; i++) {
      due(100 + i, "mark", 256 * i, 5);
    }
  }

  private static void markOfNone() {
    begin("6: NoSuchElement: none begins there");
    due(0, "cache", 312, 32, 0, 5);
    allocate(0, 0, 0, 320, 640, 1056);
    int[] no = {1, 311, 312, 319, 321, 951, 952, 960, 1023, 1024, 1055, 1057, 1376, 2048, 262_143};
    dueForEach(no, 0, NO_SUCH, "mark", 0, 6);
    dueForEach(OUTSIDE, 0, NO_SUCH, "mark", 0, 6);
    due(5, "mark", 1056, 5);
    free(0, 0, 320);
    due(NO_SUCH, "mark", 320, 5);
    due(1, "flush", 0);
    due(NO_SUCH, "mark", 320, 5);
    allocate(0, 0, 320, 1376);
    due(5, "mark", 1376, 5);
  }

  private static void flushOfOneProcessor() {
    beginWithFours("7: All that the MAGAZINES of a PROCESSOR have comes back to the SLABS");
    allocateFours(0, 28);
    freeFours(0, 9, 0);
    freeFours(9, 17, 1);
    freeFours(17, 18, 3);
    dueMagazines(0, 0, 1, 4, 1);
    dueMagazines(0, 1, 4, 4, 1);
    due(8, "flush", 1);
    dueMagazines(0, 1, 0, 0, 1);
    goOn("7: the MAGAZINES of a PROCESSOR: those of others and of the DEPOT stay");
    dueMagazines(0, 0, 1, 4, 1);
    dueMagazines(0, 3, 1, 0, 1);
    due(10, "about", 0, 6);
    goOn("7: comes back to the SLABS");
    due(1, "slab", 256 * 9, 3);
    due(1, "slab", 256 * 9, 2);
    due(0, "slab", 256 * 12, 2);
    due(3, "slab", 256 * 16, 2);
    dueList(0, PARTIAL, 256 * 8, 256 * 16);
    dueList(0, EMPTY, 256 * 12);
  }

  private static void flushInOrder() {
    beginWithFours("7: LOADED first, what came last first");
    allocateFours(0, 16);
    free(0, 0, 0, 1024, 256, 1280);
    free(0, 0, 2048, 3072);
    dueMagazines(0, 0, 2, 4, 0);
    due(6, "flush", 0);
    dueList(0, PARTIAL, 0, 1024, 2048, 3072);
    due(0, "slab", 0, 3);
    due(0, "slab", 1024, 3);
    allocate(0, 0, 0, 256, 1024, 1280, 2048, 3072);
  }

  private static void flushCacheByCache() {
    begin("7: CACHE by CACHE");
    for (int number = 0; number < 8; number++) {
      due(number, "cache", 1024, 8, 0, 0);
    }
    for (int number = 0; number < 8; number++) {
      allocate(number, 0, 1024 * number);
      free(number, 2, 1024 * number);
    }
    due(1, "drop", 3);
    due(7, "flush", 2);
    for (int number = 0; number < 8; number++) {
      if (number != 3) {
        dueMagazines(number, 2, 0, 0, 0);
        dueList(number, EMPTY, 1024 * number);
      }
    }
  }

  private static void flushCounts() {
    beginWithFours("7: how many OBJECTS: none without a CACHE or an OBJECT");
    for (int processor = 0; processor < 4; processor++) {
      due(0, "flush", processor);
    }
    allocateFours(0, 28);
    due(0, "flush", 0);
    goOn("7: how many OBJECTS: two full MAGAZINES, with a full DEPOT and without");
    freeFours(0, 20, 0);
    due(8, "flush", 0);
    due(0, "flush", 0);
    dueMagazines(0, 0, 0, 0, 3);
    freeFours(20, 28, 3);
    due(8, "flush", 3);
    dueMagazines(0, 3, 0, 0, 3);
    goOn("7: how many OBJECTS: those of a DEPOT's MAGAZINE that is LOADED now");
    allocate(0, 0, 256 * 11);
    due(3, "flush", 0);
    dueMagazines(0, 0, 0, 0, 2);
  }

  private static void flushByNone() {
    beginWithFours("7: IllegalArgument: there is no such PROCESSOR");
    dueForEach(NO_PROCESSOR, 0, ARGUMENT, "flush", 0);
    again();
    dueForEach(NO_PROCESSOR, 0, ARGUMENT, "flush", 0);
    due(0, "flush", 0);
    due(0, "flush", 3);
  }

  private static void emptyInOrder() {
    beginWithFours("8: emptied into its SLABS, the one that came last first, what came last first");
    allocateFours(0, 28);
    free(0, 0, 0, 256, 1024, 1280);
    free(0, 0, 512, 1536, 2048, 3072);
    free(0, 0, 4096, 4352, 4608, 4864, 5120);
    dueMagazines(0, 0, 1, 4, 2);
    due(8, "empty", 0);
    dueList(0, PARTIAL, 0, 1024, 2048, 3072);
    due(0, "slab", 0, 3);
    due(0, "slab", 1024, 3);
    allocate(0, 1, 0, 256, 512, 1024, 1280, 1536, 2048, 3072);
  }

  private static void emptyCounts() {
    beginWithFours("8: how many OBJECTS: none in the DEPOT");
    due(0, "empty", 0);
    due(1, "cache", 256, 8, 0, 5);
    allocateFours(0, 28);
    freeFours(0, 8, 0);
    due(0, "empty", 0);
    dueMagazines(0, 0, 4, 4, 0);
    goOn("8: how many OBJECTS: one MAGAZINE");
    freeFours(8, 9, 0);
    due(0, "empty", 1);
    dueMagazines(0, 0, 1, 4, 1);
    due(4, "empty", 0);
    dueMagazines(0, 0, 1, 4, 0);
    due(0, "empty", 0);
    goOn("8: All MAGAZINES of the DEPOT: three");
    freeFours(9, 24, 0);
    dueMagazines(0, 0, 4, 4, 3);
    due(12, "empty", 0);
    dueMagazines(0, 0, 4, 4, 0);
    due(8, "about", 0, 6);
    due(0, "empty", 0);
  }

  private static void emptyOfNone() {
    beginWithFours("8: NoSuchElement");
    dueForEach(NO_CACHE, 0, NO_SUCH, "empty", 0);
    due(NO_SUCH, "empty", 1);
    due(0, "drop", 0);
    due(NO_SUCH, "empty", 0);
  }

  private static void reapAll() {
    begin("9: All EMPTY SLABS of all CACHES are given back: how many PAGES");
    due(0, "reap");
    for (int number = 0; number < 8; number++) {
      due(number, "cache", 1024, 8, number % 4, 0);
    }
    due(0, "reap");
    due(0, "drop", 1);
    allocate(0, 0, 0, 1024, 2048);
    allocate(3, 0, 8192);
    allocate(7, 0, 16_384);
    allocate(6, 0, 4096);
    comeBack(0, 0, 1024, 2048);
    comeBack(3, 8192);
    comeBack(6, 4096);
    comeBack(7, 16_384);
    due(23, "pages", 1);
    due(23, "reap");
    due(0, "pages", 1);
    dueBlocks(6, 0, 64, 128, 192);
    due(0, "reap");
    for (int number : new int[] {0, 3, 6, 7}) {
      due(0, "about", number, 4);
      dueList(number, EMPTY);
    }
  }

  private static void reapOnlyEmptyOnes() {
    beginWithFours("9: All EMPTY SLABS: PARTIAL and FULL ones stay");
    allocateFours(0, 12);
    comeBack(0, 0, 256, 512);
    comeBack(0, 2048, 2304, 2560, 2816);
    due(1, "reap");
    dueList(0, FULL, 1024);
    dueList(0, PARTIAL, 0);
    dueList(0, EMPTY);
    goOn("9: All EMPTY SLABS: one whose OBJECTS are in a magazine is none");
    freeFours(3, 8, 0);
    due(0, "reap");
    dueMagazines(0, 0, 1, 4, 0);
    due(5, "flush", 0);
    due(2, "reap");
    due(0, "about", 0, 4);
    due(256, "pages", 0);
  }

  private static void cacheOfASlab() {
    begin("10: the CACHE of the SLAB in which it lies");
    for (int number = 0; number < 7; number++) {
      due(number, "cache", 8, 8, 0, 0);
    }
    due(7, "cache", 4088, 8, 3, 0);
    allocate(7, 0, 0, 4088, 8192 + 8);
    due(7, "cacheOf", 0);
    due(7, "cacheOf", 8191);
    for (int page = 0; page < 16; page++) {
      due(7, "cacheOf", 1024 * page + 500);
    }
    goOn("10: the CACHE of the SLAB: SPARE bytes and FREE OBJECTS are of it, too");
    due(7, "cacheOf", 8180);
    due(7, "cacheOf", 8192);
    due(7, "cacheOf", 16_383);
    goOn("10: NONE without one");
    due(NONE, "cacheOf", 16_384);
    due(NONE, "cacheOf", 262_143);
    dueForEach(OUTSIDE, 0, NONE, "cacheOf", 0);
    goOn("10: NONE without one: it is given back");
    comeBack(7, 8192 + 8);
    due(7, "cacheOf", 8192);
    due(8, "reap");
    due(NONE, "cacheOf", 8192);
    due(NONE, "cacheOf", 16_383);
    due(7, "cacheOf", 8191);
    comeBack(7, 0, 4088);
    due(8, "drop", 7);
    due(NONE, "cacheOf", 0);
    due(NONE, "cacheOf", 8191);
    allocate(0, 0, 0);
    due(0, "cacheOf", 1023);
    due(NONE, "cacheOf", 1024);
  }

  private static void objectOfItsSize() {
    begin("11: The ADDRESS of the LIVE OBJECT in whose SIZE bytes an ADDRESS lies");
    due(0, "cache", 312, 32, 0, 5);
    allocate(0, 0, 0, 320, 640, 1056);
    for (int begin : new int[] {0, 320, 640, 1056}) {
      due(begin, "objectOf", begin);
      due(begin, "objectOf", begin + 311);
      due(NONE, "objectOf", begin + 312);
      due(NONE, "objectOf", begin + 319);
    }
    goOn("11: NONE without one: SPARE bytes, of no SLAB, of no MEMORY");
    due(NONE, "objectOf", 960);
    due(NONE, "objectOf", 1023);
    due(NONE, "objectOf", 1024);
    due(NONE, "objectOf", 1055);
    due(NONE, "objectOf", 2048);
    due(NONE, "objectOf", 262_143);
    dueForEach(OUTSIDE, 0, NONE, "objectOf", 0);
    goOn("11: in whose SIZE bytes: OBJECTS of more than a page");
    due(1, "cache", 4096, 8, 3, 0);
    allocate(1, 0, 8192, 8192 + 4096);
    due(8192, "objectOf", 8192 + 4095);
    due(8192 + 4096, "objectOf", 8192 + 4096);
    due(8192 + 4096, "objectOf", 16_383);
    due(NONE, "objectOf", 16_384);
  }

  private static void objectOfALiveOne() {
    beginWithFours("11: the LIVE OBJECT: FREE ones and those in a magazine are not");
    allocateFours(0, 3);
    due(NONE, "objectOf", 768);
    free(0, 0, 256);
    due(NONE, "objectOf", 256);
    due(NONE, "objectOf", 511);
    due(0, "objectOf", 255);
    due(512, "objectOf", 512);
    due(1, "flush", 0);
    due(NONE, "objectOf", 256);
    allocate(0, 0, 256);
    due(256, "objectOf", 511);
    goOn("11: the LIVE OBJECT: one of a DEPOT is not");
    allocateFours(3, 16);
    freeFours(0, 9, 0);
    for (int i = 0; i < 9; i++) {
      due(NONE, "objectOf", 256 * i);
    }
    due(256 * 9, "objectOf", 256 * 9);
  }

  private static void aboutShape() {
    begin("12: 0 STRIDE, 1 OBJECTS of a SLAB, 2 how many COLOURS, 3 the COLOUR of the next SLAB");
    due(0, "cache", 8, 8, 3, 0);
    due(1, "cache", 312, 32, 0, 0);
    due(2, "cache", 4096, 64, 2, 0);
    dueAbout(0, 8, 1024, 1, 0, 0, 0, 0, 0);
    dueAbout(1, 320, 3, 3, 0, 0, 0, 0, 0);
    dueAbout(2, 4096, 1, 1, 0, 0, 0, 0, 0);
    goOn("12: 3 the COLOUR of the next SLAB: 0 behind the last");
    int[] addresses = {0, 320, 640, 1056, 1376, 1696, 2112, 2432, 2752, 3072};
    int[] next = {1, 1, 1, 2, 2, 2, 0, 0, 0, 1};
    for (int i = 0; i < addresses.length; i++) {
      allocate(1, 0, addresses[i]);
      due(next[i], "about", 1, 3);
    }
  }

  private static void aboutNumbers() {
    beginWithFours("12: 4 its SLABS, 5 LIVE OBJECTS, 6 OBJECTS in MAGAZINES (in those of the DEPOT, too)");
    due(1, "cache", 256, 8, 0, 5);
    allocateFours(0, 28);
    dueAbout(0, 256, 4, 1, 0, 7, 28, 0, 0);
    freeFours(0, 20, 0);
    dueAbout(0, 256, 4, 1, 0, 7, 8, 20, 0);
    freeFours(20, 21, 0);
    dueAbout(0, 256, 4, 1, 0, 7, 7, 20, 0);
    freeFours(21, 28, 2);
    dueAbout(0, 256, 4, 1, 0, 7, 0, 27, 0);
    dueAbout(1, 256, 4, 1, 0, 0, 0, 0, 0);
    due(8, "flush", 0);
    dueAbout(0, 256, 4, 1, 0, 7, 0, 19, 0);
    due(2, "reap");
    dueAbout(0, 256, 4, 1, 0, 5, 0, 19, 0);
    due(12, "empty", 0);
    due(7, "flush", 2);
    due(5, "reap");
    dueAbout(0, 256, 4, 1, 0, 0, 0, 0, 0);
  }

  private static void aboutMisses() {
    begin("12: 7 how often there was no OBJECT");
    due(0, "cache", 4096, 8, 3, 0);
    due(1, "cache", 8, 8, 0, 0);
    allocate(0, 0, steps(0, 4096, 64));
    due(0, "about", 0, 7);
    for (int times = 1; times <= 3; times++) {
      due(NONE, "allocate", 0, times);
      due(times, "about", 0, 7);
    }
    due(0, "about", 1, 7);
    goOn("12: 7 how often there was no OBJECT: a call that throws does not count");
    due(ARGUMENT, "allocate", 0, 4);
    due(ARGUMENT, "allocate", 1, -1);
    due(3, "about", 0, 7);
    due(0, "about", 1, 7);
    goOn("12: 7 how often there was no OBJECT: there was one behind the EMPTY SLABS");
    comeBack(0, 0, 4096);
    allocate(1, 0, 0);
    due(0, "about", 1, 7);
    due(3, "about", 0, 7);
  }

  private static void aboutRefused() {
    beginWithFours("12: NoSuchElement");
    dueForEach(NO_CACHE, 0, NO_SUCH, "about", 0, 0);
    due(NO_SUCH, "about", 1, 7);
    due(1, "cache", 8, 8, 0, 0);
    due(0, "drop", 1);
    due(NO_SUCH, "about", 1, 0);
    goOn("12: IllegalArgument: another what");
    dueForEach(new int[] {LEAST, -8, -1, 8, 9, 256, MOST}, 1, ARGUMENT, "about", 0, 0);
  }

  private static void listPlaces() {
    beginWithFours("13: The first byte of SLAB k, from 0 on, of a list of a CACHE");
    for (int which = 0; which < 3; which++) {
      due(NONE, "list", 0, which, 0);
    }
    allocateFours(0, 28);
    comeBack(0, 1024, 2048, 0);
    comeBack(0, steps(5120, 256, 4));
    comeBack(0, steps(6144, 256, 4));
    dueList(0, FULL, 4096, 3072);
    dueList(0, PARTIAL, 0, 2048, 1024);
    dueList(0, EMPTY, 6144, 5120);
    goOn("13: NONE if there is none such");
    int[] no = {LEAST, LEAST + 1, -256, -2, -1, 3, 4, 256, MOST};
    for (int which = 0; which < 3; which++) {
      dueForEach(no, 2, NONE, "list", 0, which, 0);
    }
    due(NONE, "list", 0, FULL, 2);
    due(NONE, "list", 0, EMPTY, 2);
    begin("13: SLAB k, from 0 on: a list of all PAGES");
    due(0, "cache", 1024, 8, 0, 0);
    allocate(0, 0, steps(0, 1024, 256));
    due(255 * 1024, "list", 0, FULL, 0);
    due(0, "list", 0, FULL, 255);
    due(NONE, "list", 0, FULL, 256);
  }

  private static void listRefused() {
    beginWithFours("13: NoSuchElement");
    dueForEach(NO_CACHE, 0, NO_SUCH, "list", 0, 0, 0);
    due(NO_SUCH, "list", 1, 0, 0);
    due(NO_SUCH, "list", 1, 0, -1);
    goOn("13: IllegalArgument: another which");
    int[] no = {LEAST, -3, -1, 3, 4, 256, MOST};
    dueForEach(no, 1, ARGUMENT, "list", 0, 0, 0);
    dueForEach(no, 1, ARGUMENT, "list", 0, 0, -1);
    dueForEach(no, 1, ARGUMENT, "list", 0, 0, MOST);
    due(0, "drop", 0);
    due(NO_SUCH, "list", 0, 0, 0);
  }

  private static void slabFacts() {
    begin("14: Of the SLAB in which an ADDRESS lies: 0 its first byte, 1 its COLOUR");
    due(0, "cache", 4088, 8, 3, 0);
    allocate(0, 0, 0, 4088, 8192 + 8);
    for (int address : new int[] {0, 1, 1023, 1024, 8191}) {
      dueSlab(address, 0, 0, 2, NONE);
    }
    for (int address : new int[] {8192, 8199, 8200, 16_383}) {
      dueSlab(address, 8192, 1, 1, 1);
    }
    allocate(0, 0, 8192 + 8 + 4088, 16_384 + 16);
    dueSlab(24_575, 16_384, 2, 1, 1);
    goOn("14: 2 how many OBJECTS are not FREE: those in a magazine are not");
    free(0, 0, 0);
    dueSlab(0, 0, 0, 2, NONE);
    due(1, "flush", 0);
    dueSlab(0, 0, 0, 1, 0);
    comeBack(0, 4088);
    dueSlab(0, 0, 0, 0, 1);
    goOn("14: 3 the number of its first FREE OBJECT (NONE without one)");
    allocate(0, 0, 16_384 + 16 + 4088);
    due(NONE, "slab", 16_384, 3);
    allocate(0, 0, 4088);
    due(0, "slab", 0, 3);
    allocate(0, 0, 0);
    due(NONE, "slab", 0, 3);
    begin("14: 3 the number of its first FREE OBJECT: the last of 1024");
    due(0, "cache", 8, 8, 3, 0);
    allocate(0, 0, steps(0, 8, 500));
    due(500, "slab", 8191, 3);
    due(500, "slab", 0, 2);
  }

  private static void slabRefused() {
    begin("14: NoSuchElement: there is none");
    due(0, "cache", 8, 8, 1, 0);
    due(NO_SUCH, "slab", 0, 0);
    allocate(0, 0, 0);
    due(0, "slab", 2047, 0);
    due(NO_SUCH, "slab", 2048, 0);
    due(NO_SUCH, "slab", 262_143, 0);
    dueForEach(OUTSIDE, 0, NO_SUCH, "slab", 0, 0);
    goOn("14: IllegalArgument: another what");
    dueForEach(new int[] {LEAST, -4, -1, 4, 5, 256, MOST}, 1, ARGUMENT, "slab", 0, 0);
    goOn("14: NoSuchElement: there is none: it is given back");
    comeBack(0, 0);
    due(0, "slab", 0, 2);
    due(2, "reap");
    due(NO_SUCH, "slab", 0, 2);
    due(NO_SUCH, "slab", 1024, 2);
  }

  private static void magazineFacts() {
    beginWithFours("15: OBJECTS in LOADED (0) or PREVIOUS (1), or in the DEPOT how many MAGAZINES (2)");
    due(1, "cache", 256, 8, 0, 5);
    allocateFours(0, 24);
    int[][] due = {
      {1, 0, 0}, {2, 0, 0}, {3, 0, 0}, {4, 0, 0}, {1, 4, 0}, {2, 4, 0}, {3, 4, 0}, {4, 4, 0}, {1, 4, 1}, {2, 4, 1},
      {3, 4, 1}, {4, 4, 1}, {1, 4, 2}, {2, 4, 2}, {3, 4, 2}, {4, 4, 2}, {1, 4, 3}, {2, 4, 3}, {3, 4, 3}, {4, 4, 3},
      {4, 4, 3},
    };
    for (int i = 0; i < due.length; i++) {
      freeFours(i, i + 1, 0);
      dueMagazines(0, 0, due[i][0], due[i][1], due[i][2]);
      dueMagazines(0, 3, 0, 0, due[i][2]);
    }
    dueMagazines(1, 0, 0, 0, 0);
  }

  private static void magazineRefused() {
    beginWithFours("15: NoSuchElement");
    dueForEach(NO_CACHE, 0, NO_SUCH, "magazine", 0, 0, 0);
    due(NO_SUCH, "magazine", 1, 0, 0);
    goOn("15: IllegalArgument: there is no such PROCESSOR");
    dueForEach(NO_PROCESSOR, 1, ARGUMENT, "magazine", 0, 0, 0);
    dueForEach(NO_PROCESSOR, 1, ARGUMENT, "magazine", 0, 0, 1);
    dueForEach(NO_PROCESSOR, 1, ARGUMENT, "magazine", 0, 0, 2);
    goOn("15: or another what");
    dueForEach(new int[] {LEAST, -3, -1, 3, 4, 256, MOST}, 2, ARGUMENT, "magazine", 0, 3, 0);
    due(0, "drop", 0);
    due(NO_SUCH, "magazine", 0, 0, 0);
  }

  private static void blockPlaces() {
    begin("16: The page of free BLOCK k, from 0 on, of an ORDER, the lowest first");
    due(0, "cache", 1024, 8, 0, 0);
    allocate(0, 0, steps(0, 1024, 17));
    for (int page : new int[] {12, 4, 8, 0}) {
      comeBack(0, 1024 * page);
      due(1, "reap");
    }
    dueBlocks(0, 0, 4, 8, 12, 17);
    dueBlocks(1, 18);
    dueBlocks(2, 20);
    dueBlocks(3, 24);
    dueBlocks(4);
    dueBlocks(5, 32);
    dueBlocks(6, 64, 128, 192);
    goOn("16: NONE if there is none such");
    int[] no = {LEAST, LEAST + 1, -256, -2, -1, 5, 6, 256, MOST};
    for (int order = 0; order <= 6; order++) {
      dueForEach(no, 1, NONE, "block", order, 0);
    }
    due(NONE, "block", 6, 3);
    due(NONE, "block", 4, 0);
  }

  private static void blockRefused() {
    begin("16: IllegalArgument: there is no such ORDER");
    int[] no = {LEAST, LEAST + 6, -6, -2, -1, 7, 8, 32, 38, 256, MOST};
    dueForEach(no, 0, ARGUMENT, "block", 0, 0);
    dueForEach(no, 0, ARGUMENT, "block", 0, -1);
    dueForEach(no, 0, ARGUMENT, "block", 0, MOST);
    due(NONE, "block", 0, 0);
    due(0, "block", 6, 0);
  }

  private static void pagesOfEachKind() {
    begin("17: How many PAGES are free (what = 0), in SLABS (1)");
    for (int order = 0; order < 4; order++) {
      due(order, "cache", 1024, 8, order, 0);
    }
    int[] used = {1, 3, 7, 15};
    for (int order = 0; order < 4; order++) {
      allocate(order, 0, order == 0 ? 0 : 1024 << order);
      due(256 - used[order], "pages", 0);
      due(used[order], "pages", 1);
    }
    goOn("17: in SLABS: EMPTY ones, too, until they are given back");
    comeBack(3, 8192);
    due(241, "pages", 0);
    due(15, "pages", 1);
    due(8, "reap");
    due(249, "pages", 0);
    due(7, "pages", 1);
    comeBack(2, 4096);
    due(4, "drop", 2);
    due(253, "pages", 0);
    due(3, "pages", 1);
    goOn("17: How many PAGES are free: none");
    again();
    due(0, "cache", 4096, 8, 3, 0);
    allocate(0, 0, steps(0, 4096, 63));
    due(0, "pages", 0);
    due(256, "pages", 1);
  }

  private static void pagesOfAnother() {
    begin("17: NONE for another what");
    dueForEach(new int[] {LEAST, LEAST + 1, -2, -1, 2, 3, 256, MOST}, 0, NONE, "pages", 0);
  }
}
