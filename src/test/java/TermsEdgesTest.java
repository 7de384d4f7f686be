/** The edges that the document names in its Terms: a part for each sentence, called by its words. */
public final class TermsEdgesTest extends HouseTest {
  public static void main(String[] args) {
    memoryHas256Pages();
    addressIsAByte();
    blocksHaveOrders();
    fourBlocksAtFirst();
    takingTheLeastOrder();
    takingTheLowestPage();
    takingHalves();
    givingBelowOrder6();
    givingToTheOtherHalf();
    eightCaches();
    sizes();
    aligns();
    orders();
    strides();
    objectsOfASlab();
    colours();
    coloursInTurn();
    coloursGoOn();
    objectsBegin();
    droppedNumbers();
    tagsAsMarks();
    rowOfFreeOnes();
    rowTakesAndGetsBack();
    fullEmptyPartial();
    listOfEach();
    changedComesFirst();
    samePlaceWithoutChange();
    fromTheFirstPartial();
    fromTheFirstEmpty();
    fromANewSlab();
    emptySlabsAreGivenBack();
    emptySlabsStayWithABlock();
    noObject();
    magazinesOfProcessors();
    depotOfThree();
    lastIsTakenFirst();
    allocatingChangesPlaces();
    allocatingFromTheDepot();
    allocatingFromLoadedElseSlabs();
    freeingChangesPlaces();
    freeingToTheDepot();
    freeingToTheSlab();
    throwingChangesNothing();
    firstExceptionWins();
    callsOfOneObject();
    end();
  }

  /** A cache 0 of objects of 256 bytes, four in a slab of one page, and tag 5. */
  private static void tellFours() {
    due(0, "cache", 256, 8, 0, 5);
  }

  /** Objects of cache 0 of 256 bytes, by their numbers from page 0 on. */
  private static void allocateFours(int from, int behind) {
    allocate(0, 0, steps(256 * from, 256, behind - from));
  }

  private static void freeFours(int from, int behind, int processor) {
    free(0, processor, steps(256 * from, 256, behind - from));
  }

  private static void memoryHas256Pages() {
    begin("MEMORY has 256 PAGES of 1024 bytes");
    due(0, "cache", 1024, 8, 0, 0);
    allocate(0, 0, steps(0, 1024, 255));
    dueBlocks(0, 255);
    due(1, "pages", 0);
    allocate(0, 0, 255 * 1024);
    due(0, "pages", 0);
    due(256, "pages", 1);
    for (int order = 0; order <= 6; order++) {
      dueBlocks(order);
    }
    due(NONE, "allocate", 0, 0);
  }

  private static void addressIsAByte() {
    begin("an ADDRESS is a byte's number, 0 .. 262,143");
    due(0, "cache", 4096, 8, 3, 7);
    allocate(0, 0, steps(0, 4096, 64));
    due(0, "cacheOf", 0);
    due(0, "objectOf", 0);
    due(0, "slab", 0, 0);
    due(7, "mark", 0, 7);
    due(0, "cacheOf", 262_143);
    due(258_048, "objectOf", 262_143);
    due(253_952, "slab", 262_143, 0);
    due(7, "mark", 258_048, 7);
    dueForEach(OUTSIDE, 0, NONE, "cacheOf", 0);
    dueForEach(OUTSIDE, 0, NONE, "objectOf", 0);
    dueForEach(OUTSIDE, 0, NO_SUCH, "slab", 0, 0);
    dueForEach(OUTSIDE, 0, NO_SUCH, "mark", 0, 7);
    dueForEach(OUTSIDE, 0, NO_SUCH, "free", 0, 0);
  }

  private static void blocksHaveOrders() {
    begin("BLOCKS of ORDER k (0 .. 6) have 2^k PAGES and begin at a page whose number is a multiple of 2^k");
    for (int order = 0; order < 4; order++) {
      due(order, "cache", 1024, 8, order, 0);
    }
    for (int order = 0; order < 4; order++) {
      int firstPage = order == 0 ? 0 : 1 << order;
      allocate(order, 0, 1024 * firstPage);
      due(order, "cacheOf", 1024 * firstPage);
      due(order, "cacheOf", 1024 * (firstPage + (1 << order)) - 1);
      due(NONE, "cacheOf", 1024 * (firstPage + (1 << order)));
    }
    due(15, "pages", 1);
    dueBlocks(0, 1);
    dueBlocks(1);
    dueBlocks(2);
    dueBlocks(3);
    dueBlocks(4, 16);
    dueBlocks(5, 32);
    dueBlocks(6, 64, 128, 192);
  }

  private static void fourBlocksAtFirst() {
    begin("at first there are four free ones of ORDER 6");
    for (int order = 0; order < 6; order++) {
      dueBlocks(order);
    }
    dueBlocks(6, 0, 64, 128, 192);
  }

  private static void takingTheLeastOrder() {
    begin("of the free ones of the least ORDER that is not below k");
    due(0, "cache", 1024, 8, 0, 0);
    due(1, "cache", 4096, 8, 3, 0);
    due(2, "cache", 2048, 8, 1, 0);
    allocate(1, 0, 0, 4096, 8192);
    allocate(0, 0, 1024 * 16);
    free(1, 0, 0, 4096);
    due(2, "flush", 0);
    due(8, "reap");
    dueBlocks(0, 17);
    dueBlocks(1, 18);
    dueBlocks(2, 20);
    dueBlocks(3, 0, 24);
    allocate(0, 0, 1024 * 17, 1024 * 18, 1024 * 19, 1024 * 20);
    goOn("of the free ones of the least ORDER that is not below k: free ones below k are not taken");
    dueBlocks(0, 21);
    allocate(2, 0, 1024 * 22, 0);
    dueBlocks(0, 21);
    dueBlocks(1, 2);
    dueBlocks(2, 4);
    dueBlocks(3, 24);
  }

  private static void takingTheLowestPage() {
    begin("the one with the lowest page is taken");
    due(0, "cache", 1024, 8, 0, 0);
    allocate(0, 0, steps(0, 1024, 8));
    for (int page : new int[] {5, 2, 7}) {
      comeBack(0, 1024 * page);
      due(1, "reap");
    }
    dueBlocks(0, 2, 5, 7);
    allocate(0, 0, 1024 * 2, 1024 * 5, 1024 * 7, 1024 * 8);
  }

  private static void takingHalves() {
    begin("as long as its ORDER is above k, it is halved, and its upper half is free: down to ORDER 0");
    due(0, "cache", 1024, 8, 0, 0);
    allocate(0, 0, 0);
    for (int order = 0; order < 6; order++) {
      dueBlocks(order, 1 << order);
    }
    dueBlocks(6, 64, 128, 192);
    begin("as long as its ORDER is above k, it is halved, and its upper half is free: no farther than to k");
    due(0, "cache", 4096, 8, 3, 0);
    allocate(0, 0, 0);
    dueBlocks(2);
    dueBlocks(3, 8);
    dueBlocks(4, 16);
    dueBlocks(5, 32);
    goOn("as long as its ORDER is above k: one of ORDER k is not halved");
    allocate(0, 0, 4096, 8192);
    dueBlocks(2);
    dueBlocks(3);
    dueBlocks(4, 16);
    dueBlocks(5, 32);
    goOn("as long as its ORDER is above k, it is halved: once from the ORDER above");
    allocate(0, 0, 12_288, 16_384);
    dueBlocks(3, 24);
    dueBlocks(4);
    dueBlocks(5, 32);
    dueBlocks(6, 64, 128, 192);
  }

  private static void givingBelowOrder6() {
    begin("GIVING one back: as long as its ORDER is below 6");
    due(0, "cache", 4096, 8, 3, 0);
    allocate(0, 0, steps(0, 4096, 18));
    dueBlocks(6, 128, 192);
    free(0, 0, steps(0, 4096, 18));
    due(72, "drop", 0);
    for (int order = 0; order < 6; order++) {
      dueBlocks(order);
    }
    dueBlocks(6, 0, 64, 128, 192);
  }

  private static void giveBack(int... pages) {
    for (int page : pages) {
      comeBack(0, 1024 * page);
      due(1, "reap");
    }
  }

  private static void givingToTheOtherHalf() {
    begin("and the other half of the BLOCK of which it is a half is free: neighbours that are no halves of one");
    due(0, "cache", 1024, 8, 0, 0);
    allocate(0, 0, steps(0, 1024, 8));
    giveBack(1, 2);
    dueBlocks(0, 1, 2);
    dueBlocks(1);
    goOn("and the other half of the BLOCK is free: a half that is free in part is not");
    giveBack(0);
    dueBlocks(0, 2);
    dueBlocks(1, 0);
    dueBlocks(2);
    goOn("both are that one: the upper half comes last");
    giveBack(3);
    dueBlocks(0);
    dueBlocks(1);
    dueBlocks(2, 0);
    dueBlocks(3, 8);
    goOn("both are that one: the lower half comes last");
    giveBack(7, 6);
    dueBlocks(0);
    dueBlocks(1, 6);
    giveBack(4);
    dueBlocks(0, 4);
    dueBlocks(1, 6);
    dueBlocks(2, 0);
    goOn("what comes of it is free: up to the greatest");
    giveBack(5);
    for (int order = 0; order < 6; order++) {
      dueBlocks(order);
    }
    dueBlocks(6, 0, 64, 128, 192);
    goOn("the other half of the BLOCK is free: it is in use, and one of its ORDER elsewhere is free");
    allocate(0, 0, steps(0, 1024, 65));
    giveBack(64 - 1);
    dueBlocks(0, 63, 65);
    giveBack(0);
    dueBlocks(0, 0, 63, 65);
  }

  private static void eightCaches() {
    begin("CACHES are 0 .. 7, in the order in which they are told");
    due(NO_SUCH, "about", 0, 0);
    for (int number = 0; number < 8; number++) {
      due(number, "cache", 8 + 8 * number, 8, 0, 0);
      due(NO_SUCH, "about", number + 1, 0);
    }
    due(NONE, "cache", 8, 8, 0, 0);
    for (int number = 0; number < 8; number++) {
      due(8 + 8 * number, "about", number, 0);
    }
    due(NO_SUCH, "about", -1, 0);
    due(NO_SUCH, "about", 8, 0);
  }

  private static void sizes() {
    begin("a SIZE (8 .. 4096 bytes, a multiple of 8)");
    int[] tooSmall = {LEAST, LEAST + 8, -4096, -16, -8, -1, 0, 1, 4, 7};
    int[] tooLarge = {4097, 4100, 4104, 8192, 65_536 + 8, MOST - 7, MOST};
    int[] between = {9, 10, 12, 15, 17, 1023, 4092, 4095};
    dueForEach(tooSmall, 0, ARGUMENT, "cache", 0, 8, 3, 0);
    dueForEach(tooLarge, 0, ARGUMENT, "cache", 0, 8, 3, 0);
    dueForEach(between, 0, ARGUMENT, "cache", 0, 8, 3, 0);
    due(0, "cache", 8, 8, 3, 0);
    due(1, "cache", 16, 8, 3, 0);
    due(2, "cache", 4088, 8, 3, 0);
    due(3, "cache", 4096, 8, 3, 0);
  }

  private static void aligns() {
    begin("an ALIGN (8, 16, 32 or 64)");
    int[] no = {LEAST, -64, -8, -1, 0, 1, 2, 4, 7, 9, 12, 15, 24, 40, 48, 56, 63, 65, 72, 128, 256 + 8, 1024, MOST};
    dueForEach(no, 1, ARGUMENT, "cache", 64, 0, 3, 0);
    due(0, "cache", 64, 8, 3, 0);
    due(1, "cache", 64, 16, 3, 0);
    due(2, "cache", 64, 32, 3, 0);
    due(3, "cache", 64, 64, 3, 0);
  }

  private static void orders() {
    begin("an ORDER (0 .. 3)");
    int[] no = {LEAST, LEAST + 3, -32, -4, -1, 4, 5, 6, 7, 32, 33, 64, MOST};
    dueForEach(no, 2, ARGUMENT, "cache", 8, 8, 0, 0);
    for (int order = 0; order < 4; order++) {
      due(order, "cache", 1024, 8, order, 0);
      due(1 << order, "about", order, 1);
    }
  }

  private static void strides() {
    begin("The STRIDE is SIZE, rounded up to a multiple of ALIGN");
    int[][] sizeAlignStride = {
      {8, 8, 8}, {8, 64, 64}, {56, 64, 64}, {64, 64, 64}, {72, 64, 128}, {72, 16, 80}, {4040, 64, 4096}, {4096, 64, 4096},
    };
    for (int number = 0; number < 8; number++) {
      due(number, "cache", sizeAlignStride[number][0], sizeAlignStride[number][1], 3, 0);
      due(sizeAlignStride[number][2], "about", number, 0);
    }
    allocate(4, 0, 0, 128);
  }

  private static void objectsOfASlab() {
    begin("a SLAB is a BLOCK of ORDER and has as many OBJECTS as go into it");
    int[][] sizeAlignOrderObjects = {
      {512, 8, 0, 2}, {520, 8, 0, 1}, {336, 8, 0, 3}, {344, 8, 0, 2}, {1024, 64, 0, 1}, {8, 8, 3, 1024}, {72, 64, 0, 8},
      {4096, 64, 3, 2},
    };
    for (int number = 0; number < 8; number++) {
      int[] row = sizeAlignOrderObjects[number];
      due(number, "cache", row[0], row[1], row[2], 0);
      due(row[3], "about", number, 1);
    }
    allocate(2, 0, 0, 336, 672, 1024 + 8);
    allocate(4, 0, 2048, 3072);
  }

  private static void colours() {
    begin("COLOURS are 0 .. SPARE / ALIGN");
    int[][] sizeAlignOrderColours = {
      {512, 8, 0, 1}, {1016, 8, 0, 2}, {504, 8, 0, 3}, {1000, 16, 0, 2}, {960, 64, 0, 2}, {520, 8, 0, 64},
      {2056, 8, 3, 254}, {4096, 64, 3, 1},
    };
    for (int number = 0; number < 8; number++) {
      int[] row = sizeAlignOrderColours[number];
      due(number, "cache", row[0], row[1], row[2], 0);
      due(row[3], "about", number, 2);
    }
  }

  private static void coloursInTurn() {
    begin("the first SLAB of a CACHE has COLOUR 0, each next one 1 more, 0 behind the last");
    due(0, "cache", 1008, 8, 0, 0);
    due(1, "cache", 1016, 8, 0, 0);
    due(2, "cache", 1024, 8, 0, 0);
    int[] ofThree = {0, 1, 2, 0, 1, 2, 0};
    int[] ofTwo = {0, 1, 0, 1, 0, 1, 0};
    for (int i = 0; i < 7; i++) {
      int firstByte = 1024 * 3 * i;
      due(ofThree[i], "about", 0, 3);
      due(ofTwo[i], "about", 1, 3);
      due(0, "about", 2, 3);
      allocate(0, 0, firstByte + 8 * ofThree[i]);
      allocate(1, 0, firstByte + 1024 + 8 * ofTwo[i]);
      allocate(2, 0, firstByte + 2048);
      due(ofThree[i], "slab", firstByte, 1);
      due(ofTwo[i], "slab", firstByte + 1024, 1);
      due(0, "slab", firstByte + 2048, 1);
    }
  }

  private static void coloursGoOn() {
    begin("each next one 1 more: behind SLABS that are given back, too");
    due(0, "cache", 1008, 8, 0, 0);
    for (int colour : new int[] {0, 1, 2, 0}) {
      allocate(0, 0, 8 * colour);
      comeBack(0, 8 * colour);
      due(1, "reap");
    }
    due(1, "about", 0, 3);
    begin("each next one 1 more: a SLAB for which there is no BLOCK is none");
    due(0, "cache", 4096, 8, 3, 0);
    due(1, "cache", 1008, 8, 0, 0);
    allocate(0, 0, steps(0, 4096, 64));
    due(NONE, "allocate", 1, 0);
    due(0, "about", 1, 3);
    comeBack(0, 0, 4096);
    allocate(1, 0, 0, 1024 + 8);
    due(2, "about", 1, 3);
  }

  private static void objectsBegin() {
    begin("OBJECT i of a SLAB begins at its first byte + COLOUR * ALIGN + i * STRIDE");
    due(0, "cache", 312, 32, 0, 0);
    allocate(0, 0, 0, 320, 640);
    allocate(0, 0, 1024 + 32, 1024 + 32 + 320, 1024 + 32 + 640);
    goOn("OBJECT i of a SLAB begins ..: the last one of the last COLOUR ends with the SLAB");
    allocate(0, 0, 2048 + 64, 2048 + 64 + 320, 2048 + 64 + 640);
    due(NONE, "objectOf", 2048 + 63);
    due(2048 + 64, "objectOf", 2048 + 64);
    due(2048 + 64 + 640, "objectOf", 3072 - 9);
    due(NONE, "objectOf", 3072 - 8);
    due(NONE, "objectOf", 3072);
    due(0, "cacheOf", 3071);
    due(NONE, "cacheOf", 3072);
    allocate(0, 0, 3072);
  }

  private static void droppedNumbers() {
    begin("A CACHE that is dropped is gone; its number is never told again");
    due(0, "cache", 8, 8, 0, 0);
    due(1, "cache", 8, 8, 0, 0);
    due(0, "drop", 0);
    due(2, "cache", 8, 8, 0, 0);
    due(0, "drop", 2);
    for (int number = 3; number < 8; number++) {
      due(number, "cache", 8, 8, 0, 0);
      due(0, "drop", number);
      due(NO_SUCH, "about", number, 0);
    }
    due(NONE, "cache", 8, 8, 0, 0);
    due(0, "drop", 1);
    due(NONE, "cache", 8, 8, 0, 0);
    for (int number = 0; number < 8; number++) {
      due(NO_SUCH, "about", number, 0);
    }
  }

  private static void tagsAsMarks() {
    begin("When a SLAB is made, each OBJECT in it gets the TAG as its MARK");
    int[] tags = {LEAST, MOST, -1, 0};
    for (int number = 0; number < tags.length; number++) {
      due(number, "cache", 256, 8, 0, tags[number]);
      allocate(number, 0, 0, 256, 512, 768);
      for (int address : new int[] {0, 256, 512, 768}) {
        due(tags[number], "mark", address, 77);
        due(77, "mark", address, tags[number]);
        due(number, "free", address, 0);
      }
      due(4, "flush", 0);
      due(1, "reap");
    }
  }

  private static void rowOfFreeOnes() {
    begin("A SLAB has them in a row of FREE ones, 0, 1, .. at first");
    due(0, "cache", 8, 8, 0, 0);
    for (int i = 0; i < 127; i++) {
      allocate(0, 0, 8 * i);
      due(i + 1, "slab", 0, 3);
    }
    allocate(0, 0, 8 * 127);
    due(NONE, "slab", 0, 3);
    allocate(0, 0, 1024);
    due(1, "slab", 1024, 3);
  }

  private static void rowTakesAndGetsBack() {
    begin("the first one is taken; one that comes back is first then");
    tellFours();
    allocateFours(0, 3);
    due(3, "slab", 0, 3);
    comeBack(0, 256);
    due(1, "slab", 0, 3);
    comeBack(0, 512);
    due(2, "slab", 0, 3);
    allocate(0, 0, 512, 256, 768);
    goOn("one that comes back is first then: to a row that is empty, and in an order of its own");
    comeBack(0, 512, 0, 768, 256);
    due(1, "slab", 0, 3);
    allocate(0, 0, 256, 768, 0, 512, 1024);
  }

  private static void fullEmptyPartial() {
    begin("It is FULL with none FREE, EMPTY with all, else PARTIAL");
    tellFours();
    for (int i = 0; i < 3; i++) {
      allocateFours(i, i + 1);
      dueList(0, FULL);
      dueList(0, PARTIAL, 0);
      dueList(0, EMPTY);
    }
    allocateFours(3, 4);
    dueList(0, FULL, 0);
    dueList(0, PARTIAL);
    goOn("It is FULL with none FREE: those in a magazine are not FREE");
    freeFours(0, 4, 0);
    dueList(0, FULL, 0);
    dueList(0, PARTIAL);
    dueList(0, EMPTY);
    allocate(0, 0, 768, 512, 256, 0);
    goOn("EMPTY with all: one is LIVE still, or in a magazine");
    comeBack(0, 0, 256, 512);
    dueList(0, PARTIAL, 0);
    dueList(0, EMPTY);
    free(0, 0, 768);
    dueList(0, PARTIAL, 0);
    dueList(0, EMPTY);
    due(1, "flush", 0);
    dueList(0, PARTIAL);
    dueList(0, EMPTY, 0);
    begin("It is FULL with none FREE, EMPTY with all: a SLAB of one OBJECT is never PARTIAL");
    due(0, "cache", 1024, 8, 0, 0);
    allocate(0, 0, 0);
    dueList(0, FULL, 0);
    dueList(0, PARTIAL);
    comeBack(0, 0);
    dueList(0, FULL);
    dueList(0, PARTIAL);
    dueList(0, EMPTY, 0);
  }

  private static void listOfEach() {
    begin("a CACHE has a list of each of these");
    due(0, "cache", 512, 8, 0, 0);
    due(1, "cache", 512, 8, 0, 0);
    for (int kind = 0; kind < 3; kind++) {
      dueList(0, kind);
    }
    allocate(0, 0, 0, 512);
    allocate(1, 0, 1024, 1536);
    allocate(0, 0, 2048);
    allocate(1, 0, 3072);
    dueList(0, FULL, 0);
    dueList(0, PARTIAL, 2048);
    dueList(1, FULL, 1024);
    dueList(1, PARTIAL, 3072);
    comeBack(1, 3072);
    dueList(0, EMPTY);
    dueList(1, EMPTY, 3072);
  }

  private static void changedComesFirst() {
    begin("A SLAB that changes comes first into its list: FULL ones");
    tellFours();
    allocateFours(0, 12);
    dueList(0, FULL, 2048, 1024, 0);
    comeBack(0, 0);
    dueList(0, FULL, 2048, 1024);
    allocate(0, 0, 0);
    dueList(0, FULL, 0, 2048, 1024);
    goOn("A SLAB that changes comes first into its list: PARTIAL ones");
    comeBack(0, 1024, 0, 2048);
    dueList(0, PARTIAL, 2048, 0, 1024);
    dueList(0, FULL);
    goOn("A SLAB that changes comes first into its list: EMPTY ones");
    comeBack(0, 256, 512, 768);
    dueList(0, PARTIAL, 2048, 1024);
    comeBack(0, 2304, 2560, 2816);
    comeBack(0, 1280, 1536, 1792);
    dueList(0, PARTIAL);
    dueList(0, EMPTY, 1024, 2048, 0);
    goOn("A SLAB that changes comes first into its list: from EMPTY to PARTIAL");
    allocate(0, 0, 1792);
    dueList(0, PARTIAL, 1024);
    dueList(0, EMPTY, 2048, 0);
  }

  private static void samePlaceWithoutChange() {
    begin("A SLAB that changes comes first into its list: one that is PARTIAL still has not changed");
    tellFours();
    allocateFours(0, 13);
    comeBack(0, 0, 1024);
    dueList(0, PARTIAL, 1024, 0, 3072);
    comeBack(0, 256);
    dueList(0, PARTIAL, 1024, 0, 3072);
    freeFours(2, 3, 0);
    freeFours(8, 9, 0);
    freeFours(3, 4, 0);
    due(3, "flush", 0);
    dueList(0, PARTIAL, 2048, 1024, 3072);
    dueList(0, EMPTY, 0);
  }

  private static void fromTheFirstPartial() {
    begin("FROM THE SLABS an OBJECT comes of the first PARTIAL one");
    tellFours();
    allocateFours(0, 16);
    comeBack(0, 2048, 2304, 2560, 2816);
    comeBack(0, 256, 1024, 1280);
    dueList(0, PARTIAL, 1024, 0);
    dueList(0, EMPTY, 2048);
    allocate(0, 0, 1280, 1024, 256);
    dueList(0, PARTIAL);
    dueList(0, EMPTY, 2048);
  }

  private static void fromTheFirstEmpty() {
    begin("without any, of the first EMPTY one");
    tellFours();
    allocateFours(0, 12);
    comeBack(0, steps(0, 256, 4));
    comeBack(0, steps(2048, 256, 4));
    dueList(0, EMPTY, 2048, 0);
    allocate(0, 0, 2816);
    dueList(0, EMPTY, 0);
    allocate(0, 0, 2560, 2304, 2048, 768);
    due(3, "about", 0, 4);
  }

  private static void fromANewSlab() {
    begin("without any, of a new SLAB");
    tellFours();
    due(0, "about", 0, 4);
    allocateFours(0, 4);
    due(1, "about", 0, 4);
    goOn("without any, of a new SLAB: what another CACHE has is not its own");
    due(1, "cache", 256, 8, 0, 5);
    allocateFours(4, 5);
    allocate(1, 0, 2048);
    due(2, "about", 0, 4);
    due(1, "about", 1, 4);
  }

  /** Cache 0 has 62 slabs of 4 pages, cache 1 one, and cache 2 four of 1 page: all pages are in use. */
  private static void fillMemory() {
    due(0, "cache", 4096, 8, 2, 0);
    due(1, "cache", 4096, 8, 2, 0);
    due(2, "cache", 1024, 8, 0, 0);
    allocate(0, 0, steps(0, 4096, 62));
    allocate(1, 0, 62 * 4096);
    allocate(2, 0, steps(63 * 4096, 1024, 4));
    due(0, "pages", 0);
  }

  private static void emptySlabsAreGivenBack() {
    begin("If there is no BLOCK for that, all EMPTY SLABS of all CACHES are given back first");
    fillMemory();
    comeBack(0, 0, 4096 * 5);
    comeBack(1, 62 * 4096);
    due(0, "pages", 0);
    allocate(2, 0, 0);
    due(0, "about", 2, 7);
    dueList(0, EMPTY);
    dueList(1, EMPTY);
    due(60, "about", 0, 4);
    due(0, "about", 1, 4);
    due(11, "pages", 0);
    dueBlocks(0, 1);
    dueBlocks(1, 2);
    dueBlocks(2, 20, 248);
    goOn("all EMPTY SLABS of all CACHES are given back first: of a CACHE with a higher number, too");
    again();
    fillMemory();
    comeBack(2, 255 * 1024);
    comeBack(1, 62 * 4096);
    allocate(0, 0, 62 * 4096);
    dueBlocks(0, 255);
    due(3, "about", 2, 4);
    due(0, "about", 1, 4);
  }

  private static void emptySlabsStayWithABlock() {
    begin("If there is no BLOCK for that: with the last BLOCK, EMPTY SLABS stay");
    fillMemory();
    comeBack(2, 254 * 1024);
    due(1, "reap");
    comeBack(0, 0);
    dueBlocks(0, 254);
    allocate(2, 0, 254 * 1024);
    due(0, "pages", 0);
    dueList(0, EMPTY, 0);
    goOn("If there is no BLOCK for that: they are given back for the next one");
    allocate(2, 0, 0);
    dueList(0, EMPTY);
    due(3, "pages", 0);
    begin("If there is no BLOCK for that: an OBJECT of a MAGAZINE or of an own SLAB needs none");
    fillMemory();
    comeBack(0, 0, 4096);
    comeBack(1, 62 * 4096);
    free(2, 0, 252 * 1024);
    allocate(2, 0, 252 * 1024);
    comeBack(2, 253 * 1024);
    allocate(2, 0, 253 * 1024);
    allocate(0, 0, 4096);
    due(0, "pages", 0);
    dueList(0, EMPTY, 0);
    dueList(1, EMPTY, 62 * 4096);
  }

  private static void noObject() {
    begin("if there is none still, there is no OBJECT: too few PAGES");
    fillMemory();
    due(NONE, "allocate", 0, 0);
    due(NONE, "allocate", 1, 0);
    due(NONE, "allocate", 2, 0);
    due(1, "about", 0, 7);
    due(1, "about", 1, 7);
    due(1, "about", 2, 7);
    comeBack(2, 252 * 1024);
    comeBack(2, 253 * 1024);
    comeBack(2, 255 * 1024);
    due(NONE, "allocate", 0, 0);
    due(2, "about", 0, 7);
    goOn("if there is none still: the EMPTY SLABS are given back all the same");
    dueList(2, EMPTY);
    due(1, "about", 2, 4);
    due(3, "pages", 0);
    dueBlocks(0, 255);
    dueBlocks(1, 252);
    begin("if there is none still, there is no OBJECT: PAGES enough, but no BLOCK of them");
    due(0, "cache", 4096, 8, 2, 0);
    due(1, "cache", 8, 8, 3, 0);
    allocate(0, 0, steps(0, 4096, 64));
    comeBack(0, 4096, 8192);
    due(NONE, "allocate", 1, 0);
    dueBlocks(2, 4, 8);
    dueAbout(1, 8, 1024, 1, 0, 0, 0, 0, 1);
    goOn("there is no OBJECT: what magazines of others have stays there");
    free(0, 1, 0);
    due(NONE, "allocate", 1, 0);
    due(1, "magazine", 0, 1, 0);
    due(1, "flush", 1);
    allocate(1, 0, 0);
    due(2, "about", 1, 7);
  }

  private static void magazinesOfProcessors() {
    begin("PROCESSORS 0 .. 3 have for each CACHE two MAGAZINES, LOADED and PREVIOUS, each with up to 4 OBJECTS");
    tellFours();
    due(1, "cache", 256, 8, 0, 5);
    for (int processor = 0; processor < 4; processor++) {
      dueMagazines(0, processor, 0, 0, 0);
    }
    allocateFours(0, 32);
    for (int processor = 0; processor < 4; processor++) {
      int first = 8 * processor;
      freeFours(first, first + 3, processor);
      dueMagazines(0, processor, 3, 0, 0);
      freeFours(first + 3, first + 4, processor);
      dueMagazines(0, processor, 4, 0, 0);
      freeFours(first + 4, first + 5, processor);
      dueMagazines(0, processor, 1, 4, 0);
      freeFours(first + 5, first + 8, processor);
      dueMagazines(0, processor, 4, 4, 0);
    }
    for (int processor = 0; processor < 4; processor++) {
      dueMagazines(0, processor, 4, 4, 0);
      dueMagazines(1, processor, 0, 0, 0);
    }
    dueForEach(NO_PROCESSOR, 1, ARGUMENT, "magazine", 0, 0, 0);
  }

  private static void depotOfThree() {
    begin("a CACHE has a DEPOT of up to 3 full MAGAZINES");
    tellFours();
    due(1, "cache", 256, 8, 0, 5);
    allocateFours(0, 28);
    for (int depot = 0; depot < 3; depot++) {
      freeFours(4 * depot, 4 * depot + 4, 0);
      dueMagazines(0, 0, 4, depot == 0 ? 0 : 4, Math.max(0, depot - 1));
    }
    freeFours(12, 20, 0);
    dueMagazines(0, 0, 4, 4, 3);
    due(20, "about", 0, 6);
    freeFours(20, 22, 0);
    dueMagazines(0, 0, 4, 4, 3);
    due(20, "about", 0, 6);
    due(0, "magazine", 1, 0, 2);
    goOn("a CACHE has a DEPOT: the same one for all PROCESSORS");
    freeFours(22, 28, 1);
    dueMagazines(0, 1, 2, 4, 3);
  }

  private static void lastIsTakenFirst() {
    begin("What comes to a MAGAZINE last is taken first");
    tellFours();
    allocateFours(0, 4);
    free(0, 2, 512, 0, 768, 256);
    allocate(0, 2, 256, 768);
    free(0, 2, 768);
    allocate(0, 2, 768, 0, 512);
  }

  private static void allocatingChangesPlaces() {
    begin("ALLOCATING: if LOADED is empty, but PREVIOUS is not, they change places");
    tellFours();
    allocateFours(0, 24);
    freeFours(0, 9, 0);
    dueMagazines(0, 0, 1, 4, 1);
    goOn("if LOADED is empty: with one OBJECT it is not");
    allocate(0, 0, 256 * 8);
    dueMagazines(0, 0, 0, 4, 1);
    goOn("if LOADED is empty, but PREVIOUS is not, they change places: before the DEPOT");
    allocate(0, 0, 256 * 7);
    dueMagazines(0, 0, 3, 0, 1);
    goOn("they change places: PREVIOUS is the empty one then");
    freeFours(7, 9, 0);
    dueMagazines(0, 0, 1, 4, 1);
    allocate(0, 0, 256 * 8, 256 * 7, 256 * 6, 256 * 5, 256 * 4);
    dueMagazines(0, 0, 0, 0, 1);
  }

  private static void allocatingFromTheDepot() {
    begin("If both are, and the DEPOT has some, LOADED is the one that came there last (it is in the DEPOT no more)");
    tellFours();
    allocateFours(0, 28);
    freeFours(0, 20, 0);
    dueMagazines(0, 0, 4, 4, 3);
    allocate(0, 1, 256 * 11);
    dueMagazines(0, 1, 3, 0, 2);
    allocate(0, 1, 256 * 10, 256 * 9, 256 * 8);
    dueMagazines(0, 1, 0, 0, 2);
    allocate(0, 2, 256 * 7);
    dueMagazines(0, 2, 3, 0, 1);
    allocate(0, 1, 256 * 3);
    dueMagazines(0, 1, 3, 0, 0);
    goOn("If both are, and the DEPOT has some: it has none");
    allocate(0, 3, 256 * 28);
    dueMagazines(0, 3, 0, 0, 0);
    goOn("the DEPOT has some: behind one that was taken, the next one that comes is the last");
    freeFours(24, 28, 0);
    dueMagazines(0, 0, 4, 4, 1);
    allocate(0, 3, 256 * 15);
    dueMagazines(0, 3, 3, 0, 0);
  }

  private static void allocatingFromLoadedElseSlabs() {
    begin("If LOADED has any, its OBJECT is taken, else one FROM THE SLABS");
    tellFours();
    due(1, "cache", 256, 8, 0, 5);
    allocateFours(0, 2);
    free(0, 0, 0);
    due(2, "slab", 0, 3);
    allocate(0, 0, 0);
    due(2, "slab", 0, 3);
    goOn("else one FROM THE SLABS: what other PROCESSORS have is not taken");
    free(0, 1, 0);
    allocate(0, 0, 512);
    allocate(0, 1, 0);
    goOn("else one FROM THE SLABS: what MAGAZINES and DEPOT of another CACHE have is not taken");
    allocate(0, 0, steps(768, 256, 9));
    free(0, 0, steps(0, 256, 9));
    dueMagazines(0, 0, 1, 4, 1);
    allocate(1, 0, 3072);
    dueMagazines(0, 0, 1, 4, 1);
  }

  private static void freeingChangesPlaces() {
    begin("FREEING: if LOADED is full, but PREVIOUS is not, they change places");
    tellFours();
    allocateFours(0, 28);
    freeFours(0, 4, 0);
    dueMagazines(0, 0, 4, 0, 0);
    freeFours(4, 5, 0);
    dueMagazines(0, 0, 1, 4, 0);
    goOn("if LOADED is full: with three it is not");
    freeFours(5, 7, 0);
    dueMagazines(0, 0, 3, 4, 0);
    freeFours(7, 8, 0);
    dueMagazines(0, 0, 4, 4, 0);
    goOn("if LOADED is full, but PREVIOUS is not: before the DEPOT, and with a full one");
    freeFours(8, 20, 0);
    dueMagazines(0, 0, 4, 4, 3);
    allocate(0, 0, 256 * 19, 256 * 18, 256 * 17, 256 * 16, 256 * 15);
    dueMagazines(0, 0, 3, 0, 3);
    freeFours(15, 16, 0);
    dueMagazines(0, 0, 4, 0, 3);
    freeFours(16, 17, 0);
    dueMagazines(0, 0, 1, 4, 3);
  }

  private static void freeingToTheDepot() {
    begin("If both are full, and the DEPOT has fewer than 3, PREVIOUS goes there, LOADED is PREVIOUS, and an empty one is "
        + "LOADED");
    tellFours();
    allocateFours(0, 28);
    freeFours(0, 8, 0);
    dueMagazines(0, 0, 4, 4, 0);
    freeFours(8, 9, 0);
    dueMagazines(0, 0, 1, 4, 1);
    freeFours(9, 16, 0);
    dueMagazines(0, 0, 4, 4, 2);
    goOn("and the DEPOT has fewer than 3: it has two");
    freeFours(16, 17, 0);
    dueMagazines(0, 0, 1, 4, 3);
    allocate(0, 0, 256 * 16, 256 * 15, 256 * 14, 256 * 13, 256 * 12);
    allocate(0, 0, 256 * 11, 256 * 10, 256 * 9, 256 * 8);
    allocate(0, 0, 256 * 7, 256 * 6, 256 * 5, 256 * 4);
    allocate(0, 0, 256 * 3, 256 * 2, 256, 0);
    dueMagazines(0, 0, 0, 0, 0);
  }

  private static void freeingToTheSlab() {
    begin("If LOADED is not full, the OBJECT comes into it, else it comes back to its SLAB");
    tellFours();
    allocateFours(0, 28);
    freeFours(0, 19, 0);
    dueMagazines(0, 0, 3, 4, 3);
    freeFours(19, 20, 0);
    dueMagazines(0, 0, 4, 4, 3);
    due(4, "slab", 256 * 19, 2);
    dueList(0, PARTIAL);
    freeFours(20, 21, 0);
    dueMagazines(0, 0, 4, 4, 3);
    due(3, "slab", 256 * 20, 2);
    due(0, "slab", 256 * 20, 3);
    dueList(0, PARTIAL, 256 * 20);
    due(7, "about", 0, 5);
    due(20, "about", 0, 6);
    goOn("else it comes back to its SLAB: the other PROCESSORS have room");
    freeFours(21, 22, 3);
    dueMagazines(0, 3, 1, 0, 3);
    goOn("else it comes back to its SLAB: an OBJECT there is FREE");
    due(NO_SUCH, "free", 256 * 20, 0);
    due(NONE, "objectOf", 256 * 20);
    allocate(0, 0, 256 * 19, 256 * 18, 256 * 17, 256 * 16);
    allocate(0, 0, 256 * 15);
  }

  /** Caches 0 and 1 with live objects, magazines of all fillings, a depot, and marks; cache 2 is dropped. */
  private static void tellOfAll() {
    tellFours();
    due(1, "cache", 1000, 8, 0, 9);
    due(2, "cache", 8, 8, 0, 9);
    due(0, "drop", 2);
    allocateFours(0, 20);
    allocate(1, 0, 5120, 6144 + 8);
    freeFours(2, 11, 0);
    freeFours(12, 14, 1);
    comeBack(0, 256 * 16);
    comeBack(1, 5120);
    due(5, "mark", 256, 6);
    dueMagazines(0, 0, 1, 4, 1);
  }

  private static void throwingChangesNothing() {
    begin("A call that throws changes nothing");
    tellOfAll();
    dueChangesNothing(ARGUMENT, "cache", 12, 8, 0, 0);
    dueChangesNothing(ARGUMENT, "cache", 8, 12, 0, 0);
    dueChangesNothing(ARGUMENT, "cache", 8, 8, 4, 0);
    dueChangesNothing(ARGUMENT, "cache", 4096, 8, 0, 0);
    dueChangesNothing(NO_SUCH, "drop", 2);
    dueChangesNothing(STATE, "drop", 0);
    dueChangesNothing(STATE, "drop", 1);
    dueChangesNothing(NO_SUCH, "allocate", 2, 0);
    dueChangesNothing(ARGUMENT, "allocate", 0, 4);
    dueChangesNothing(ARGUMENT, "allocate", 0, -1);
    dueChangesNothing(NO_SUCH, "free", 512, 0);
    dueChangesNothing(NO_SUCH, "free", 1, 0);
    dueChangesNothing(NO_SUCH, "free", 5120, 0);
    dueChangesNothing(ARGUMENT, "free", 0, 4);
    dueChangesNothing(STATE, "free", 256, 0);
    dueChangesNothing(STATE, "free", 256, 3);
    dueChangesNothing(NO_SUCH, "mark", 512, 7);
    dueChangesNothing(NO_SUCH, "mark", 257, 7);
    dueChangesNothing(ARGUMENT, "flush", 4);
    dueChangesNothing(ARGUMENT, "flush", -1);
    dueChangesNothing(NO_SUCH, "empty", 2);
    dueChangesNothing(NO_SUCH, "about", 2, 0);
    dueChangesNothing(ARGUMENT, "about", 0, 8);
    dueChangesNothing(NO_SUCH, "list", 2, 0, 0);
    dueChangesNothing(ARGUMENT, "list", 0, 3, 0);
    dueChangesNothing(NO_SUCH, "slab", 1024 * 200, 0);
    dueChangesNothing(ARGUMENT, "slab", 0, 4);
    dueChangesNothing(NO_SUCH, "magazine", 2, 0, 0);
    dueChangesNothing(ARGUMENT, "magazine", 0, 4, 0);
    dueChangesNothing(ARGUMENT, "magazine", 0, 0, 3);
    dueChangesNothing(ARGUMENT, "block", 7, 0);
  }

  private static void firstExceptionWins() {
    begin("where it lists more than one exception, the first one wins");
    tellOfAll();
    due(NO_SUCH, "allocate", 2, 4);
    due(NO_SUCH, "allocate", -1, -1);
    due(NO_SUCH, "free", 512, 4);
    due(NO_SUCH, "free", 257, -1);
    due(ARGUMENT, "free", 256, 4);
    due(ARGUMENT, "free", 256, -1);
    due(STATE, "free", 256, 3);
    due(NO_SUCH, "about", 2, 8);
    due(NO_SUCH, "about", 8, -1);
    due(NO_SUCH, "list", 2, 3, 0);
    due(NO_SUCH, "list", -1, -1, -1);
    due(NO_SUCH, "slab", 1024 * 200, 4);
    due(NO_SUCH, "slab", -1, -1);
    due(NO_SUCH, "magazine", 2, 4, 0);
    due(NO_SUCH, "magazine", 2, 0, 3);
    due(NO_SUCH, "magazine", 8, 4, 3);
  }

  private static void callsOfOneObject() {
    begin("An object is used for at most 512 calls after it has been made: the last of them");
    due(0, "cache", 8, 8, 3, 0);
    allocate(0, 0, steps(0, 8, 511));
    begin("An object is used for at most 512 calls after it has been made: each makes or gives back a SLAB");
    due(0, "cache", 8, 8, 3, 0);
    for (int i = 0; i < 127; i++) {
      allocate(0, 0, 0);
      comeBack(0, 0);
      due(8, "reap");
    }
    due(256, "pages", 0);
    due(0, "about", 0, 4);
    allocate(0, 0, 0);
  }
}
