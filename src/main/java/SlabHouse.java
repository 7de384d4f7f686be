import java.util.Arrays;
import java.util.NoSuchElementException;

/**
 * Memory by the page, the slab and the object: blocks that are halved and put together again, slabs
 * of objects of one size that begin at other colours in turn, objects that are made once and keep
 * their tag, and magazines of free ones for each processor.
 */
public final class SlabHouse {

    public static final int NONE = -1;

    private static final int PAGES = 256;
    private static final int PAGE_BYTES = 1024;
    private static final int BYTES = PAGES * PAGE_BYTES;
    private static final int TOP_ORDER = 6;

    private static final int CACHES = 8;
    private static final int LEAST_SIZE = 8;
    private static final int MOST_SIZE = 4096;
    private static final int TOP_SLAB_ORDER = 3;

    private static final int PROCESSORS = 4;
    private static final int MAGAZINE_ROOM = 4;
    private static final int DEPOT_ROOM = 3;

    /** The lists of a cache, by the numbers that the call list uses. */
    private static final int FULL = 0;
    private static final int PARTIAL = 1;
    private static final int EMPTY = 2;
    private static final int LISTS = 3;

    /** What a slab's row of links holds for an object that is not free; a free one has a link. */
    private static final int LIVE = -2;
    private static final int IN_MAGAZINE = -3;

    private static final int FIRST_ROW_LENGTH = 4;

    private final Blocks blocks = new Blocks();
    /** The slab in which a page lies, null without one. */
    private final Slab[] slabOfPage = new Slab[PAGES];
    /** By number; null for one that was never told or is dropped. */
    private final Cache[] caches = new Cache[CACHES];
    private int toldCaches;

    public SlabHouse() {
    }

    public int cache(int size, int align, int order, int tag) throws IllegalArgumentException {
        if (size < LEAST_SIZE || size > MOST_SIZE || size % 8 != 0) {
            throw new IllegalArgumentException("no such size");
        }
        if (align != 8 && align != 16 && align != 32 && align != 64) {
            throw new IllegalArgumentException("no such align");
        }
        if (order < 0 || order > TOP_SLAB_ORDER) {
            throw new IllegalArgumentException("no such order of a slab");
        }
        if (roundedUp(size, align) > PAGE_BYTES << order) {
            throw new IllegalArgumentException("a slab would have no object");
        }
        if (toldCaches >= CACHES) {
            return NONE;
        }
        int number = toldCaches;
        caches[number] = new Cache(number, size, align, order, tag);
        toldCaches++;
        return number;
    }

    public int drop(int cache) throws NoSuchElementException, IllegalStateException {
        Cache dropped = knownCache(cache);
        if (dropped.live > 0) {
            throw new IllegalStateException("an object of it is live");
        }
        int pages = 0;
        for (int page = 0; page < PAGES; page++) {
            Slab slab = slabOfPage[page];
            if (slab != null && slab.owner == dropped) {
                pages += giveBack(slab);
            }
        }
        caches[dropped.number] = null;
        return pages;
    }

    public int allocate(int cache, int processor)
            throws NoSuchElementException, IllegalArgumentException {
        Cache from = knownCache(cache);
        requireProcessor(processor);
        int address = from.takeFromMagazines(processor);
        if (address == NONE) {
            address = takeFromSlabs(from);
        }
        Slab home = slabAt(address);
        if (home == null) {
            from.misses++;
            return NONE;
        }
        home.become(home.numberOver(address), LIVE);
        from.live++;
        return address;
    }

    public int free(int address, int processor)
            throws NoSuchElementException, IllegalArgumentException, IllegalStateException {
        Slab home = slabAt(address);
        if (home == null || !home.liveBeginsAt(address)) {
            throw new NoSuchElementException("no live object begins there");
        }
        requireProcessor(processor);
        Cache owner = home.owner;
        int number = home.numberOver(address);
        if (home.markOf(number) != owner.tag) {
            throw new IllegalStateException("its mark is not the tag");
        }
        owner.live--;
        if (owner.putIntoMagazines(processor, address)) {
            home.become(number, IN_MAGAZINE);
        } else {
            comeBack(address);
        }
        return owner.number;
    }

    public int mark(int address, int mark) throws NoSuchElementException {
        Slab home = slabAt(address);
        if (home == null || !home.liveBeginsAt(address)) {
            throw new NoSuchElementException("no live object begins there");
        }
        return home.changeMark(home.numberOver(address), mark);
    }

    public int flush(int processor) throws IllegalArgumentException {
        requireProcessor(processor);
        int objects = 0;
        for (int i = 0; i < CACHES; i++) {
            Cache flushed = caches[i];
            if (flushed != null) {
                objects += unload(flushed.loaded[processor]);
                objects += unload(flushed.previous[processor]);
            }
        }
        return objects;
    }

    public int empty(int cache) throws NoSuchElementException {
        Cache emptied = knownCache(cache);
        int objects = 0;
        for (int i = 0; i < DEPOT_ROOM; i++) {
            Magazine last = emptied.takeFromDepot();
            if (last != null) {
                objects += unload(last);
            }
        }
        return objects;
    }

    public int reap() {
        int pages = 0;
        for (int i = 0; i < CACHES; i++) {
            Slab next = caches[i] == null ? null : caches[i].lists[EMPTY].first;
            while (next != null) {
                Slab given = next;
                next = given.after;
                pages += giveBack(given);
            }
        }
        return pages;
    }

    public int cacheOf(int address) {
        Slab home = slabAt(address);
        return home == null ? NONE : home.owner.number;
    }

    public int objectOf(int address) {
        Slab home = slabAt(address);
        if (home == null) {
            return NONE;
        }
        int number = home.numberOver(address);
        if (!home.isLive(number)) {
            return NONE;
        }
        int begin = home.beginOf(number);
        return address - begin < home.owner.size ? begin : NONE;
    }

    public int about(int cache, int what) throws NoSuchElementException, IllegalArgumentException {
        Cache asked = knownCache(cache);
        switch (what) {
            case 0:
                return asked.stride;
            case 1:
                return asked.objects;
            case 2:
                return asked.colours;
            case 3:
                return asked.nextColour;
            case 4:
                return asked.slabs;
            case 5:
                return asked.live;
            case 6:
                return asked.inMagazines();
            case 7:
                return asked.misses;
            default:
                throw new IllegalArgumentException("no such fact of a cache");
        }
    }

    public int list(int cache, int which, int k)
            throws NoSuchElementException, IllegalArgumentException {
        Cache asked = knownCache(cache);
        if (which < 0 || which >= LISTS) {
            throw new IllegalArgumentException("no such list");
        }
        Slab found = asked.lists[which].slabAtPlace(k);
        return found == null ? NONE : found.firstByte();
    }

    public int slab(int address, int what) throws NoSuchElementException, IllegalArgumentException {
        Slab asked = slabAt(address);
        if (asked == null) {
            throw new NoSuchElementException("no slab lies there");
        }
        switch (what) {
            case 0:
                return asked.firstByte();
            case 1:
                return asked.colour;
            case 2:
                return asked.notFree;
            case 3:
                return asked.firstFree();
            default:
                throw new IllegalArgumentException("no such fact of a slab");
        }
    }

    public int magazine(int cache, int processor, int what)
            throws NoSuchElementException, IllegalArgumentException {
        Cache asked = knownCache(cache);
        requireProcessor(processor);
        switch (what) {
            case 0:
                return asked.loaded[processor].count;
            case 1:
                return asked.previous[processor].count;
            case 2:
                return asked.inDepot;
            default:
                throw new IllegalArgumentException("no such fact of a magazine");
        }
    }

    public int block(int order, int k) throws IllegalArgumentException {
        if (order < 0 || order > TOP_ORDER) {
            throw new IllegalArgumentException("no such order");
        }
        return blocks.freePage(order, k);
    }

    public int pages(int what) {
        if (what == 0) {
            return blocks.freePages;
        }
        return what == 1 ? PAGES - blocks.freePages : NONE;
    }

    private Cache knownCache(int number) {
        if (number < 0 || number >= CACHES || caches[number] == null) {
            throw new NoSuchElementException("no such cache");
        }
        return caches[number];
    }

    private static void requireProcessor(int processor) {
        if (processor < 0 || processor >= PROCESSORS) {
            throw new IllegalArgumentException("no such processor");
        }
    }

    private static int roundedUp(int size, int align) {
        return (size + align - 1) & -align;
    }

    private Slab slabAt(int address) {
        return address < 0 || address >= BYTES ? null : slabOfPage[address / PAGE_BYTES];
    }

    private int takeFromSlabs(Cache from) {
        Slab source = from.lists[PARTIAL].first;
        if (source == null) {
            source = from.lists[EMPTY].first;
        }
        if (source == null) {
            source = makeSlab(from);
        }
        if (source == null) {
            return NONE;
        }
        int number = source.takeFirst();
        from.relist(source);
        return number == NONE ? NONE : source.beginOf(number);
    }

    private Slab makeSlab(Cache owner) {
        int page = blocks.take(owner.order);
        if (page == NONE) {
            reap();
            page = blocks.take(owner.order);
        }
        if (page == NONE) {
            return null;
        }
        Slab made = new Slab(owner, page, owner.nextColour);
        owner.nextColour = owner.nextColour + 1 < owner.colours ? owner.nextColour + 1 : 0;
        owner.slabs++;
        owner.relist(made);
        setPages(made, made);
        return made;
    }

    private int unload(Magazine magazine) {
        int objects = magazine.count;
        for (int i = 0; i < objects; i++) {
            comeBack(magazine.takeLast());
        }
        return objects;
    }

    private void comeBack(int address) {
        Slab home = slabAt(address);
        if (home != null) {
            home.putFirst(home.numberOver(address));
            home.owner.relist(home);
        }
    }

    private int giveBack(Slab slab) {
        slab.owner.unlist(slab);
        slab.owner.slabs--;
        setPages(slab, null);
        blocks.giveBack(slab.page, slab.owner.order);
        return 1 << slab.owner.order;
    }

    private void setPages(Slab slab, Slab now) {
        int behind = Math.min(slab.page + (1 << slab.owner.order), PAGES);
        for (int page = slab.page; page < behind; page++) {
            slabOfPage[page] = now;
        }
    }

    /** Which blocks are free. */
    private static final class Blocks {
        /** The order of the free block that begins at a page, NONE where none begins. */
        final int[] freeOrder = new int[PAGES];
        int freePages = PAGES;

        Blocks() {
            Arrays.fill(freeOrder, NONE);
            for (int page = 0; page < PAGES; page += 1 << TOP_ORDER) {
                freeOrder[page] = TOP_ORDER;
            }
        }

        int freePage(int order, int k) {
            int before = 0;
            for (int page = 0; page < PAGES; page++) {
                if (freeOrder[page] == order) {
                    if (before == k) {
                        return page;
                    }
                    before++;
                }
            }
            return NONE;
        }

        int take(int order) {
            for (int taken = order; taken <= TOP_ORDER; taken++) {
                int page = freePage(taken, 0);
                if (page != NONE) {
                    halve(page, taken, order);
                    return page;
                }
            }
            return NONE;
        }

        private void halve(int page, int from, int to) {
            freeOrder[page] = NONE;
            for (int half = from - 1; half >= to; half--) {
                setFree(page + (1 << half), half);
            }
            freePages -= 1 << to;
        }

        void giveBack(int page, int order) {
            int begin = page;
            int whole = order;
            while (whole < TOP_ORDER && isFree(begin ^ (1 << whole), whole)) {
                setFree(begin ^ (1 << whole), NONE);
                begin &= ~(1 << whole);
                whole++;
            }
            setFree(begin, whole);
            freePages += 1 << order;
        }

        private boolean isFree(int page, int order) {
            return page >= 0 && page < PAGES && freeOrder[page] == order;
        }

        private void setFree(int page, int order) {
            if (page >= 0 && page < PAGES) {
                freeOrder[page] = order;
            }
        }
    }

    /** A cache with its lists of slabs, its magazines and its depot. */
    private static final class Cache {
        final int number;
        final int size;
        final int align;
        final int order;
        final int tag;
        final int stride;
        final int objects;
        final int colours;
        int nextColour;
        int slabs;
        int live;
        int misses;
        final SlabList[] lists = new SlabList[LISTS];
        final Magazine[] loaded = new Magazine[PROCESSORS];
        final Magazine[] previous = new Magazine[PROCESSORS];
        final Magazine[] depot = new Magazine[DEPOT_ROOM];
        int inDepot;

        /** The arguments are as the document says, so that align and stride are above 0. */
        Cache(int number, int size, int align, int order, int tag) {
            this.number = number;
            this.size = size;
            this.align = align;
            this.order = order;
            this.tag = tag;
            stride = roundedUp(size, align);
            int bytes = PAGE_BYTES << order;
            objects = stride > 0 ? bytes / stride : 0;
            int spare = bytes - objects * stride;
            colours = align > 0 ? spare / align + 1 : 1;
            for (int i = 0; i < LISTS; i++) {
                lists[i] = new SlabList();
            }
            for (int i = 0; i < PROCESSORS; i++) {
                loaded[i] = new Magazine();
                previous[i] = new Magazine();
            }
        }

        /** A slab that is of the same kind still has not changed: it keeps its place. */
        void relist(Slab slab) {
            int kind = slab.kind();
            if (slab.listed != kind) {
                unlist(slab);
                slab.listed = kind;
                lists[kind].putFirst(slab);
            }
        }

        void unlist(Slab slab) {
            if (slab.listed != NONE) {
                lists[slab.listed].remove(slab);
                slab.listed = NONE;
            }
        }

        int takeFromMagazines(int processor) {
            if (loaded[processor].count == 0 && previous[processor].count > 0) {
                changePlaces(processor);
            } else if (loaded[processor].count == 0) {
                Magazine last = takeFromDepot();
                loaded[processor] = last == null ? loaded[processor] : last;
            }
            return loaded[processor].takeLast();
        }

        /** Whether there was room for it. */
        boolean putIntoMagazines(int processor, int address) {
            if (loaded[processor].isFull()) {
                if (!previous[processor].isFull()) {
                    changePlaces(processor);
                } else if (inDepot < DEPOT_ROOM) {
                    depot[inDepot] = previous[processor];
                    inDepot++;
                    previous[processor] = loaded[processor];
                    loaded[processor] = new Magazine();
                }
            }
            return loaded[processor].put(address);
        }

        private void changePlaces(int processor) {
            Magazine other = loaded[processor];
            loaded[processor] = previous[processor];
            previous[processor] = other;
        }

        /** The one that came last; null without any. */
        Magazine takeFromDepot() {
            if (inDepot <= 0) {
                return null;
            }
            inDepot--;
            Magazine last = depot[inDepot];
            depot[inDepot] = null;
            return last;
        }

        int inMagazines() {
            int sum = inDepot * MAGAZINE_ROOM;
            for (int i = 0; i < PROCESSORS; i++) {
                sum += loaded[i].count + previous[i].count;
            }
            return sum;
        }
    }

    /** Addresses of objects; what comes last is taken first. */
    private static final class Magazine {
        final int[] addresses = new int[MAGAZINE_ROOM];
        int count;

        boolean isFull() {
            return count >= MAGAZINE_ROOM;
        }

        boolean put(int address) {
            if (isFull()) {
                return false;
            }
            addresses[count] = address;
            count++;
            return true;
        }

        int takeLast() {
            if (count <= 0) {
                return NONE;
            }
            count--;
            return addresses[count];
        }
    }

    /**
     * The objects of a slab. The row of free ones is the chain of those that came back and, behind
     * it, those that were never taken: these are the highest numbers, so that the rows need to
     * reach no farther than the objects that were taken once.
     */
    private static final class Slab {
        final Cache owner;
        final int page;
        final int colour;
        int notFree;
        /** The list it stands in, NONE for none, and its neighbours there. */
        int listed = NONE;
        Slab before;
        Slab after;
        private int neverTaken;
        private int cameBack = NONE;
        private int[] links;
        private int[] marks;

        Slab(Cache owner, int page, int colour) {
            this.owner = owner;
            this.page = page;
            this.colour = colour;
            int length = Math.max(1, Math.min(FIRST_ROW_LENGTH, owner.objects));
            links = new int[length];
            marks = new int[length];
        }

        int firstByte() {
            return page * PAGE_BYTES;
        }

        int beginOf(int number) {
            return firstByte() + colour * owner.align + number * owner.stride;
        }

        /** The number of the object in whose stride an address lies, NONE without one. */
        int numberOver(int address) {
            int offset = address - beginOf(0);
            if (offset < 0 || owner.stride <= 0) {
                return NONE;
            }
            int number = offset / owner.stride;
            return number < owner.objects ? number : NONE;
        }

        boolean isLive(int number) {
            return wasTaken(number) && links[number] == LIVE;
        }

        boolean liveBeginsAt(int address) {
            int number = numberOver(address);
            return isLive(number) && beginOf(number) == address;
        }

        int markOf(int number) {
            return wasTaken(number) ? marks[number] : owner.tag;
        }

        int changeMark(int number, int mark) {
            int was = markOf(number);
            if (wasTaken(number)) {
                marks[number] = mark;
            }
            return was;
        }

        int kind() {
            if (notFree >= owner.objects) {
                return FULL;
            }
            return notFree == 0 ? EMPTY : PARTIAL;
        }

        int firstFree() {
            if (cameBack != NONE) {
                return cameBack;
            }
            return neverTaken < owner.objects ? neverTaken : NONE;
        }

        int takeFirst() {
            int number = firstFree();
            if (wasTaken(number)) {
                cameBack = links[number];
                notFree++;
            } else if (number != NONE) {
                makeRoomForOne();
                marks[neverTaken] = owner.tag;
                neverTaken++;
                notFree++;
            }
            return number;
        }

        /** For an object that is not free any more. */
        void become(int number, int state) {
            if (wasTaken(number)) {
                links[number] = state;
            }
        }

        void putFirst(int number) {
            if (wasTaken(number)) {
                links[number] = cameBack;
                cameBack = number;
                notFree--;
            }
        }

        private boolean wasTaken(int number) {
            return number >= 0 && number < neverTaken;
        }

        private void makeRoomForOne() {
            if (neverTaken >= links.length) {
                int length = Math.min(owner.objects, 2 * links.length);
                links = Arrays.copyOf(links, length);
                marks = Arrays.copyOf(marks, length);
            }
        }
    }

    /** A chain of slabs; a slab stands in at most one. */
    private static final class SlabList {
        Slab first;

        void putFirst(Slab slab) {
            slab.before = null;
            slab.after = first;
            if (first != null) {
                first.before = slab;
            }
            first = slab;
        }

        void remove(Slab slab) {
            if (slab.before == null) {
                first = slab.after;
            } else {
                slab.before.after = slab.after;
            }
            if (slab.after != null) {
                slab.after.before = slab.before;
            }
            slab.before = null;
            slab.after = null;
        }

        Slab slabAtPlace(int k) {
            if (k < 0) {
                return null;
            }
            int left = k;
            Slab here = first;
            while (here != null && left > 0) {
                here = here.after;
                left--;
            }
            return here;
        }
    }
}
