import java.util.Arrays;

/** A laboratory of collectors: four stores keep the same things, each in its own way. */
public final class Tessera {
    private static final int NONE = -1;
    private static final int MOST_THINGS = 80;
    private static final int MOST_FIELDS = 3;
    private static final int ROOTS = 6;
    private static final int STORES = 4;
    private static final int LEAST_ROOM = 40;
    private static final int FIRST_ROOM = 64;
    private static final int MOST_ROOM = 160;
    private static final int MOST_STEPS = 20;
    private static final int MOST_OF_THING = 2;
    private static final int MOST_TOLD = 7;
    private static final int MOST_KEPT = 4;
    private static final int MOST_MORE = 3;
    private static final long DIGEST_START = 58088;
    private static final int DIGEST_FACTOR = 31;

    private final Graph graph;
    private final Nursery nursery;
    private final Marking marking;
    private final Counting counting;
    private final Store[] stores;
    private int room;

    public Tessera() {
        Graph shared = new Graph();
        Nursery aged = new Nursery(shared);
        Marking stepping = new Marking(shared);
        Counting counted = new Counting(shared);
        Store[] all = new Store[STORES];
        all[0] = new Copying(shared);
        all[1] = aged;
        all[2] = stepping;
        all[3] = counted;
        graph = shared;
        nursery = aged;
        marking = stepping;
        counting = counted;
        stores = all;
        room = FIRST_ROOM;
    }

    // ---- things

    public int begin(int room) throws IllegalArgumentException {
        if (room < LEAST_ROOM || room > MOST_ROOM) {
            throw new IllegalArgumentException("the room is 40 to 160");
        }
        int before = this.room;
        this.room = room;
        graph.startAnew();
        for (int s = 0; s < STORES; s++) {
            stores[s].startAnew(room);
        }
        return before;
    }

    public int make(int fields, int root)
            throws IllegalArgumentException, IndexOutOfBoundsException, IllegalStateException {
        if (fields < 0 || fields > MOST_FIELDS) {
            throw new IllegalArgumentException("a thing has 0 to 3 fields");
        }
        checkRoot(root);
        if (graph.count >= MOST_THINGS) {
            throw new IllegalStateException("there are 80 things");
        }
        openPauses();
        int thing = graph.addThing(fields);
        for (int s = 0; s < STORES; s++) {
            if (!stores[s].broken) {
                stores[s].placeNew(thing);
            }
        }
        nameByRoot(root, thing);
        closePauses();
        return thing;
    }

    public int set(int thing, int field, int other) throws IndexOutOfBoundsException {
        if (!graph.isReached(thing) || !graph.hasField(thing, field)) {
            throw new IndexOutOfBoundsException("no such reached thing, or field");
        }
        checkNameable(other);
        openPauses();
        int before = graph.nameOf(thing, field);
        if (before != other) {
            graph.nameByField(thing, field, other);
            tellStores(thing, before, other);
        }
        closePauses();
        return before;
    }

    public int root(int root, int thing) throws IndexOutOfBoundsException {
        checkRoot(root);
        checkNameable(thing);
        openPauses();
        int before = nameByRoot(root, thing);
        closePauses();
        return before;
    }

    public int things() {
        return graph.count;
    }

    public int ofThing(int thing, int what) throws IndexOutOfBoundsException, IllegalArgumentException {
        checkThing(thing);
        checkWhat(what, MOST_OF_THING);
        switch (what) {
            case 0:
                return graph.fieldsOf(thing);
            case 1:
                return asNumber(graph.isReached(thing));
            default:
                return graph.distanceOf(thing);
        }
    }

    public int named(int thing, int field) throws IndexOutOfBoundsException {
        if (!graph.hasField(thing, field)) {
            throw new IndexOutOfBoundsException("no such thing, or field");
        }
        return graph.nameOf(thing, field);
    }

    // ---- collecting

    public int collect(int store) throws IndexOutOfBoundsException {
        Store asked = storeOf(store);
        asked.openPause();
        int gone = asked.cleanUp();
        asked.closePause();
        return gone;
    }

    public int small() {
        nursery.openPause();
        int gone = nursery.cleanUpYoung();
        nursery.closePause();
        return gone;
    }

    public int steps(int steps) throws IllegalArgumentException {
        if (steps < 1 || steps > MOST_STEPS) {
            throw new IllegalArgumentException("the steps are 1 to 20");
        }
        marking.openPause();
        int greys = marking.goOn(steps);
        marking.closePause();
        return greys;
    }

    // ---- the stores, asked

    public int at(int store, int thing) throws IndexOutOfBoundsException {
        Store asked = storeOf(store);
        checkThing(thing);
        return asked.placeOf(thing);
    }

    public int told(int store, int what) throws IndexOutOfBoundsException, IllegalArgumentException {
        Store asked = storeOf(store);
        checkWhat(what, MOST_TOLD);
        switch (what) {
            case 0:
                return asked.countHad();
            case 1:
                return asked.wordsHad();
            case 2:
                return asked.countUnreached();
            case 3:
                return asked.work;
            case 4:
                return asked.longestPause;
            case 5:
                return asked.broken ? 0 : asked.freeTogether();
            case 6:
                return asked.collectings;
            default:
                return asNumber(asked.broken);
        }
    }

    public int kept(int thing, int what) throws IndexOutOfBoundsException, IllegalArgumentException {
        checkThing(thing);
        checkWhat(what, MOST_KEPT);
        switch (what) {
            case 0:
                return nursery.ageOf(thing);
            case 1:
                return nursery.has(thing) ? asNumber(nursery.isRemembered(thing)) : NONE;
            case 2:
                return marking.colourOf(thing);
            case 3:
                return counting.countOf(thing);
            default:
                return counting.has(thing) ? asNumber(counting.isSuspect(thing)) : NONE;
        }
    }

    public int more(int what) throws IllegalArgumentException {
        checkWhat(what, MOST_MORE);
        switch (what) {
            case 0:
                return nursery.smallOnes;
            case 1:
                return nursery.wordsGrownOld;
            case 2:
                return asNumber(marking.marks);
            default:
                return counting.goneByRings;
        }
    }

    // ---- what would be (nothing is changed)

    public int wouldGo(int store) throws IndexOutOfBoundsException {
        Store asked = storeOf(store);
        return asked.broken ? 0 : asked.countToGo();
    }

    public int wouldWork(int store) throws IndexOutOfBoundsException {
        Store asked = storeOf(store);
        return asked.broken ? 0 : asked.workToDo();
    }

    public int wouldLose(int root) throws IndexOutOfBoundsException {
        checkRoot(root);
        return graph.countLostWithout(root);
    }

    public double meanLeft() {
        int sum = 0;
        int whole = 0;
        for (int s = 0; s < STORES; s++) {
            if (!stores[s].broken) {
                sum += stores[s].countUnreached();
                whole++;
            }
        }
        return whole == 0 ? 0.0 : (double) sum / (double) whole;
    }

    public long digest() {
        long d = mixed(DIGEST_START, graph.count);
        for (int thing = 0; thing < graph.count; thing++) {
            d = mixedThing(d, thing);
        }
        for (int s = 0; s < STORES; s++) {
            for (int what = 0; what <= MOST_TOLD; what++) {
                d = mixed(d, told(s, what));
            }
            d = mixed(d, wouldGo(s));
            d = mixed(d, wouldWork(s));
        }
        for (int what = 0; what <= MOST_MORE; what++) {
            d = mixed(d, more(what));
        }
        for (int r = 0; r < ROOTS; r++) {
            d = mixed(d, wouldLose(r));
        }
        return d;
    }

    private long mixedThing(long start, int thing) {
        long d = start;
        for (int what = 0; what <= MOST_OF_THING; what++) {
            d = mixed(d, ofThing(thing, what));
        }
        for (int field = 0; field < graph.fieldsOf(thing); field++) {
            d = mixed(d, graph.nameOf(thing, field));
        }
        for (int s = 0; s < STORES; s++) {
            d = mixed(d, stores[s].placeOf(thing));
        }
        for (int what = 0; what <= MOST_KEPT; what++) {
            d = mixed(d, kept(thing, what));
        }
        return d;
    }

    private static long mixed(long d, int x) {
        return d * DIGEST_FACTOR + x;
    }

    private static int asNumber(boolean yes) {
        return yes ? 1 : 0;
    }

    private void checkThing(int thing) {
        if (!graph.isThing(thing)) {
            throw new IndexOutOfBoundsException("no such thing");
        }
    }

    private void checkNameable(int thing) {
        if (thing != NONE && !graph.isReached(thing)) {
            throw new IndexOutOfBoundsException("no such reached thing");
        }
    }

    private static void checkRoot(int root) {
        if (root < 0 || root >= ROOTS) {
            throw new IndexOutOfBoundsException("no such root");
        }
    }

    private static void checkWhat(int what, int most) {
        if (what < 0 || what > most) {
            throw new IllegalArgumentException("nothing to ask by that number");
        }
    }

    private Store storeOf(int store) {
        if (store < 0 || store >= STORES) {
            throw new IndexOutOfBoundsException("no such store");
        }
        return stores[store];
    }

    private int nameByRoot(int root, int thing) {
        int before = graph.rootAt(root);
        if (before != thing) {
            graph.nameByRoot(root, thing);
            tellStores(NONE, before, thing);
        }
        return before;
    }

    private void tellStores(int namer, int before, int after) {
        for (int s = 0; s < STORES; s++) {
            if (!stores[s].broken) {
                stores[s].learnNaming(namer, before, after);
            }
        }
    }

    private void openPauses() {
        for (int s = 0; s < STORES; s++) {
            stores[s].openPause();
        }
    }

    private void closePauses() {
        for (int s = 0; s < STORES; s++) {
            stores[s].closePause();
        }
    }

    /** Things in a row, each at most once. */
    private static final class Row {
        private final int[] items = new int[MOST_THINGS];
        private final boolean[] inside = new boolean[MOST_THINGS];
        int size;

        void empty() {
            for (int i = 0; i < MOST_THINGS; i++) {
                inside[i] = false;
            }
            size = 0;
        }

        void add(int thing) {
            if (thing < 0 || thing >= MOST_THINGS || inside[thing] || size >= MOST_THINGS) {
                return;
            }
            inside[thing] = true;
            items[size] = thing;
            size++;
        }

        boolean holds(int thing) {
            return thing >= 0 && thing < MOST_THINGS && inside[thing];
        }

        int get(int index) {
            return index >= 0 && index < size ? items[index] : NONE;
        }
    }

    /** The things themselves: their fields, the roots, and what these reach. */
    private static final class Graph {
        private final int[] fields = new int[MOST_THINGS];
        private final int[] names = new int[MOST_THINGS * MOST_FIELDS];
        private final int[] roots = new int[ROOTS];
        private final int[] distances = new int[MOST_THINGS];
        private final Row reached = new Row();
        private final Row reachedOtherwise = new Row();
        int count;

        Graph() {
            for (int r = 0; r < ROOTS; r++) {
                roots[r] = NONE;
            }
        }

        void startAnew() {
            count = 0;
            Arrays.fill(roots, NONE);
            reached.empty();
        }

        int addThing(int itsFields) {
            if (count >= MOST_THINGS) {
                return NONE;
            }
            int thing = count;
            count++;
            fields[thing] = itsFields;
            distances[thing] = NONE;
            for (int f = 0; f < MOST_FIELDS; f++) {
                names[thing * MOST_FIELDS + f] = NONE;
            }
            return thing;
        }

        boolean isThing(int thing) {
            return thing >= 0 && thing < count;
        }

        boolean isReached(int thing) {
            return thing >= 0 && thing < count && distances[thing] != NONE;
        }

        boolean hasField(int thing, int field) {
            return thing >= 0 && thing < count && field >= 0 && field < fields[thing];
        }

        int fieldsOf(int thing) {
            return thing >= 0 && thing < count ? fields[thing] : 0;
        }

        int wordsOf(int thing) {
            return thing >= 0 && thing < count ? fields[thing] + 1 : 0;
        }

        int distanceOf(int thing) {
            return isThing(thing) ? distances[thing] : NONE;
        }

        int nameOf(int thing, int field) {
            if (thing < 0 || thing >= count || field < 0 || field >= fields[thing]) {
                return NONE;
            }
            return names[thing * MOST_FIELDS + field];
        }

        int rootAt(int root) {
            return root >= 0 && root < ROOTS ? roots[root] : NONE;
        }

        void nameByField(int thing, int field, int other) {
            if (hasField(thing, field)) {
                names[thing * MOST_FIELDS + field] = other;
                measure();
            }
        }

        void nameByRoot(int root, int thing) {
            if (root >= 0 && root < ROOTS) {
                roots[root] = thing;
                measure();
            }
        }

        /** Fills the row with what the roots, but the one left out, reach: nearest first, then root by root. */
        void trace(Row row, int leftOut) {
            row.empty();
            for (int r = 0; r < ROOTS; r++) {
                if (r != leftOut) {
                    row.add(roots[r]);
                }
            }
            for (int i = 0; i < row.size && i < MOST_THINGS; i++) {
                addNamedBy(row.get(i), row);
            }
        }

        void addNamedBy(int thing, Row row) {
            for (int f = 0; f < fieldsOf(thing); f++) {
                row.add(nameOf(thing, f));
            }
        }

        int countLostWithout(int root) {
            trace(reachedOtherwise, root);
            return reached.size - reachedOtherwise.size;
        }

        // The row is in the order of distance, so the first that names a thing tells the least.
        private void measure() {
            trace(reached, NONE);
            Arrays.fill(distances, NONE);
            for (int r = 0; r < ROOTS; r++) {
                if (isThing(roots[r])) {
                    distances[roots[r]] = 0;
                }
            }
            for (int i = 0; i < reached.size; i++) {
                measureNamedBy(reached.get(i));
            }
        }

        private void measureNamedBy(int thing) {
            int further = distanceOf(thing) + 1;
            for (int f = 0; f < fieldsOf(thing); f++) {
                int other = nameOf(thing, f);
                if (isThing(other) && distances[other] == NONE) {
                    distances[other] = further;
                }
            }
        }
    }

    /** What all stores have: things at places, work, pauses, and the state of being broken. */
    private abstract static class Store {
        final Graph graph;
        int room;
        int work;
        int longestPause;
        int collectings;
        boolean broken;
        private int workAhead;
        private final boolean[] had = new boolean[MOST_THINGS];
        private final int[] places = new int[MOST_THINGS];

        Store(Graph graph) {
            this.graph = graph;
            room = FIRST_ROOM;
        }

        /** Places a new thing, or breaks down. */
        abstract void placeNew(int thing);

        /** Collects, in a store that is not broken, and tells how many things are gone. */
        abstract int collectNow();

        abstract int countToGo();

        abstract int workToDo();

        abstract int freeTogether();

        /** Forgets where things lie and what is known of them, but not what was done. */
        abstract void forgetThings();

        /** Sets to 0 what a store counts beside its work, pauses and collectings. */
        void resetCounters() {
        }

        /** A field of the namer, or a root (then the namer is none), names another thing than before. */
        void learnNaming(int namer, int before, int after) {
        }

        final void startAnew(int newRoom) {
            room = newRoom;
            work = 0;
            longestPause = 0;
            collectings = 0;
            broken = false;
            workAhead = 0;
            letAllGo();
            forgetThings();
            resetCounters();
        }

        final int cleanUp() {
            return broken ? 0 : collectNow();
        }

        final void openPause() {
            workAhead = work;
        }

        final void closePause() {
            longestPause = Math.max(longestPause, work - workAhead);
        }

        final void breakDown() {
            broken = true;
            letAllGo();
            forgetThings();
        }

        final boolean has(int thing) {
            return thing >= 0 && thing < MOST_THINGS && had[thing];
        }

        final int placeOf(int thing) {
            return has(thing) ? places[thing] : NONE;
        }

        final void put(int thing, int place) {
            if (graph.isThing(thing)) {
                had[thing] = true;
                places[thing] = place;
            }
        }

        final void letGo(int thing) {
            if (thing >= 0 && thing < MOST_THINGS) {
                had[thing] = false;
            }
        }

        final void letAllGo() {
            for (int i = 0; i < MOST_THINGS; i++) {
                had[i] = false;
            }
        }

        final int countHad() {
            int sum = 0;
            for (int thing = 0; thing < graph.count; thing++) {
                sum += has(thing) ? 1 : 0;
            }
            return sum;
        }

        final int wordsHad() {
            int sum = 0;
            for (int thing = 0; thing < graph.count; thing++) {
                sum += has(thing) ? graph.wordsOf(thing) : 0;
            }
            return sum;
        }

        final int countUnreached() {
            int sum = 0;
            for (int thing = 0; thing < graph.count; thing++) {
                sum += has(thing) && !graph.isReached(thing) ? 1 : 0;
            }
            return sum;
        }

        final int wordsReached() {
            int sum = 0;
            for (int thing = 0; thing < graph.count; thing++) {
                sum += has(thing) && graph.isReached(thing) ? graph.wordsOf(thing) : 0;
            }
            return sum;
        }
    }

    /** Store 0: two halves, from one of which what is reached is copied to the other. */
    private static final class Copying extends Store {
        private final Row copied = new Row();
        private boolean usesSecond;
        private int used;

        Copying(Graph graph) {
            super(graph);
        }

        void forgetThings() {
            usesSecond = false;
            used = 0;
        }

        void placeNew(int thing) {
            int words = graph.wordsOf(thing);
            if (words > freeTogether()) {
                collectNow();
            }
            if (words > freeTogether()) {
                breakDown();
            } else {
                putBehind(thing);
            }
        }

        int collectNow() {
            int before = countHad();
            graph.trace(copied, NONE);
            letAllGo();
            usesSecond = !usesSecond;
            used = 0;
            for (int i = 0; i < copied.size; i++) {
                putBehind(copied.get(i));
            }
            work += used;
            collectings++;
            return before - copied.size;
        }

        int countToGo() {
            return countUnreached();
        }

        int workToDo() {
            return wordsReached();
        }

        int freeTogether() {
            return room / 2 - used;
        }

        private void putBehind(int thing) {
            put(thing, (usesSecond ? room / 2 : 0) + used);
            used += graph.wordsOf(thing);
        }
    }

    /** Store 1: a nursery for the new things, and a place for those that grow old. */
    private static final class Nursery extends Store {
        private static final int OLD_AGE = 2;

        int smallOnes;
        int wordsGrownOld;
        private final Row young = new Row();
        private final Row old = new Row();
        private final Row found = new Row();
        private final boolean[] grown = new boolean[MOST_THINGS];
        private int youngEnd;
        private int oldEnd;

        Nursery(Graph graph) {
            super(graph);
            oldEnd = FIRST_ROOM / 4;
        }

        void forgetThings() {
            young.empty();
            old.empty();
            youngEnd = 0;
            oldEnd = room / 4;
        }

        void resetCounters() {
            smallOnes = 0;
            wordsGrownOld = 0;
        }

        void placeNew(int thing) {
            int words = graph.wordsOf(thing);
            if (words > freeTogether()) {
                cleanUpYoung();
            }
            if (!broken && words > freeTogether()) {
                collectNow();
            }
            // The nursery is empty after a great one, and no thing is larger than the least nursery.
            if (!broken) {
                putYoung(thing, false);
            }
        }

        /** The great collecting. */
        int collectNow() {
            if (!greatFits()) {
                breakDown();
                return 0;
            }
            int before = countHad();
            findReached();
            letAllGo();
            forgetThings();
            for (int i = 0; i < found.size; i++) {
                putOld(found.get(i));
                work += graph.wordsOf(found.get(i));
            }
            collectings++;
            return before - found.size;
        }

        /** The small collecting, or the great one where that is due. */
        int cleanUpYoung() {
            if (broken) {
                return 0;
            }
            if (wordsGrown() > room - oldEnd) {
                return collectNow();
            }
            int before = young.size;
            findYoung();
            for (int i = 0; i < young.size; i++) {
                letGo(young.get(i));
            }
            young.empty();
            youngEnd = 0;
            for (int i = 0; i < found.size; i++) {
                moveFound(found.get(i));
            }
            smallOnes++;
            return before - found.size;
        }

        int countToGo() {
            return greatFits() ? countUnreached() : 0;
        }

        int workToDo() {
            return greatFits() ? wordsReached() : 0;
        }

        int freeTogether() {
            return room / 4 - youngEnd;
        }

        int ageOf(int thing) {
            if (!has(thing)) {
                return NONE;
            }
            if (!young.holds(thing)) {
                return OLD_AGE;
            }
            return isGrown(thing) ? 1 : 0;
        }

        boolean isRemembered(int thing) {
            if (!old.holds(thing)) {
                return false;
            }
            for (int f = 0; f < graph.fieldsOf(thing); f++) {
                if (young.holds(graph.nameOf(thing, f))) {
                    return true;
                }
            }
            return false;
        }

        private boolean greatFits() {
            return wordsReached() <= room - room / 4;
        }

        private boolean isGrown(int thing) {
            return graph.isThing(thing) && grown[thing];
        }

        private int wordsGrown() {
            int sum = 0;
            for (int i = 0; i < young.size; i++) {
                sum += isGrown(young.get(i)) ? graph.wordsOf(young.get(i)) : 0;
            }
            return sum;
        }

        private void findReached() {
            found.empty();
            addReached(old);
            addReached(young);
        }

        private void addReached(Row row) {
            for (int i = 0; i < row.size; i++) {
                if (graph.isReached(row.get(i))) {
                    found.add(row.get(i));
                }
            }
        }

        private void findYoung() {
            found.empty();
            for (int r = 0; r < ROOTS; r++) {
                addYoung(graph.rootAt(r));
            }
            for (int thing = 0; thing < graph.count; thing++) {
                if (old.holds(thing)) {
                    addYoungNamedBy(thing);
                }
            }
            for (int i = 0; i < found.size && i < MOST_THINGS; i++) {
                addYoungNamedBy(found.get(i));
            }
        }

        private void addYoungNamedBy(int thing) {
            for (int f = 0; f < graph.fieldsOf(thing); f++) {
                addYoung(graph.nameOf(thing, f));
            }
        }

        private void addYoung(int thing) {
            if (young.holds(thing)) {
                found.add(thing);
            }
        }

        private void moveFound(int thing) {
            int words = graph.wordsOf(thing);
            if (isGrown(thing)) {
                putOld(thing);
                wordsGrownOld += words;
            } else {
                putYoung(thing, true);
            }
            work += words;
        }

        private void putYoung(int thing, boolean asGrown) {
            if (graph.isThing(thing)) {
                grown[thing] = asGrown;
                young.add(thing);
                put(thing, youngEnd);
                youngEnd += graph.wordsOf(thing);
            }
        }

        private void putOld(int thing) {
            old.add(thing);
            put(thing, oldEnd);
            oldEnd += graph.wordsOf(thing);
        }
    }

    /** A store whose things lie scattered, each at the smallest place that was free for it. */
    private abstract static class Scattered extends Store {
        private final boolean[] taken = new boolean[MOST_ROOM];

        Scattered(Graph graph) {
            super(graph);
        }

        final int firstPlaceFor(int thing) {
            int words = graph.wordsOf(thing);
            int run = 0;
            markTaken();
            for (int p = 0; p < room && p < MOST_ROOM; p++) {
                run = taken[p] ? 0 : run + 1;
                if (run == words) {
                    return p - words + 1;
                }
            }
            return NONE;
        }

        final int freeTogether() {
            int most = 0;
            int run = 0;
            markTaken();
            for (int p = 0; p < room && p < MOST_ROOM; p++) {
                run = taken[p] ? 0 : run + 1;
                most = Math.max(most, run);
            }
            return most;
        }

        private void markTaken() {
            for (int p = 0; p < MOST_ROOM; p++) {
                taken[p] = false;
            }
            for (int thing = 0; thing < graph.count; thing++) {
                if (has(thing)) {
                    markTakenBy(thing);
                }
            }
        }

        private void markTakenBy(int thing) {
            int from = placeOf(thing);
            int end = from + graph.wordsOf(thing);
            for (int p = from; p >= 0 && p < end && p < MOST_ROOM; p++) {
                taken[p] = true;
            }
        }
    }

    /** Store 2: marks step by step what is reached, and then sweeps. */
    private static final class Marking extends Scattered {
        private static final int WHITE = 0;
        private static final int GREY = 1;
        private static final int BLACK = 2;
        private static final int STEPS_AHEAD = 2;

        boolean marks;
        private final int[] colours = new int[MOST_THINGS];
        // All that became grey since the marking began, in this order; those from firstGrey on still are.
        private final Row greys = new Row();
        private final Row foreseen = new Row();
        private int firstGrey;

        Marking(Graph graph) {
            super(graph);
        }

        void forgetThings() {
            marks = false;
            greys.empty();
            firstGrey = 0;
        }

        void placeNew(int thing) {
            workAheadOfPlacing();
            int place = firstPlaceFor(thing);
            if (place == NONE) {
                collectNow();
                place = firstPlaceFor(thing);
            }
            // What was marked while it was reached may stay for one sweep, and go by the next.
            if (place == NONE) {
                collectNow();
                place = firstPlaceFor(thing);
            }
            if (place == NONE) {
                breakDown();
                return;
            }
            put(thing, place);
            paint(thing, marks ? BLACK : WHITE);
        }

        int collectNow() {
            int before = countHad();
            if (!marks) {
                beginToMark();
            }
            // Each step but the sweep takes a grey thing, and each thing is grey once at most.
            for (int i = 0; marks && i <= MOST_THINGS; i++) {
                step();
            }
            return before - countHad();
        }

        int goOn(int steps) {
            if (broken) {
                return NONE;
            }
            if (!marks) {
                beginToMark();
            }
            for (int i = 0; marks && i < steps; i++) {
                step();
            }
            return marks ? greys.size - firstGrey : NONE;
        }

        void learnNaming(int namer, int before, int after) {
            if (marks && (namer == NONE || colourOf(namer) == BLACK)) {
                becomeGrey(after);
            }
        }

        int countToGo() {
            foresee();
            int sum = 0;
            for (int thing = 0; thing < graph.count; thing++) {
                sum += colourOf(thing) == WHITE && !foreseen.holds(thing) ? 1 : 0;
            }
            return sum;
        }

        int workToDo() {
            foresee();
            int sum = countHad();
            for (int i = 0; i < foreseen.size; i++) {
                sum += graph.wordsOf(foreseen.get(i));
            }
            return sum;
        }

        int colourOf(int thing) {
            return has(thing) && graph.isThing(thing) ? colours[thing] : NONE;
        }

        private void paint(int thing, int colour) {
            if (graph.isThing(thing)) {
                colours[thing] = colour;
            }
        }

        private void workAheadOfPlacing() {
            if (!marks) {
                if (room - wordsHad() < room / 2) {
                    beginToMark();
                }
                return;
            }
            for (int i = 0; marks && i < STEPS_AHEAD; i++) {
                step();
            }
        }

        private void beginToMark() {
            marks = true;
            greys.empty();
            firstGrey = 0;
            for (int r = 0; r < ROOTS; r++) {
                becomeGrey(graph.rootAt(r));
            }
        }

        private void becomeGrey(int thing) {
            if (colourOf(thing) == WHITE) {
                paint(thing, GREY);
                greys.add(thing);
            }
        }

        private void step() {
            if (firstGrey >= greys.size) {
                sweep();
                return;
            }
            int thing = greys.get(firstGrey);
            firstGrey++;
            paint(thing, BLACK);
            for (int f = 0; f < graph.fieldsOf(thing); f++) {
                becomeGrey(graph.nameOf(thing, f));
            }
            // 1 for the step and 1 for each field are as many as the thing has words.
            work += graph.wordsOf(thing);
        }

        private void sweep() {
            work += countHad();
            for (int thing = 0; thing < graph.count; thing++) {
                if (colourOf(thing) == WHITE) {
                    letGo(thing);
                }
                paint(thing, WHITE);
            }
            marks = false;
            collectings++;
        }

        /** Finds the things that steps would still take till a sweep. */
        private void foresee() {
            foreseen.empty();
            for (int i = firstGrey; marks && i < greys.size; i++) {
                foreseen.add(greys.get(i));
            }
            for (int r = 0; !marks && r < ROOTS; r++) {
                foreseeIfWhite(graph.rootAt(r));
            }
            for (int i = 0; i < foreseen.size && i < MOST_THINGS; i++) {
                int thing = foreseen.get(i);
                for (int f = 0; f < graph.fieldsOf(thing); f++) {
                    foreseeIfWhite(graph.nameOf(thing, f));
                }
            }
        }

        private void foreseeIfWhite(int thing) {
            if (colourOf(thing) == WHITE) {
                foreseen.add(thing);
            }
        }
    }

    /** Store 3: counts by how many a thing is named, and looks for rings. */
    private static final class Counting extends Scattered {
        int goneByRings;
        private final int[] counts = new int[MOST_THINGS];
        private final boolean[] suspects = new boolean[MOST_THINGS];
        private final int[] namedInside = new int[MOST_THINGS];
        private final Row fallen = new Row();
        private final Row suspected = new Row();
        private final Row leftOut = new Row();

        Counting(Graph graph) {
            super(graph);
        }

        void forgetThings() {
            for (int i = 0; i < MOST_THINGS; i++) {
                suspects[i] = false;
            }
        }

        void resetCounters() {
            goneByRings = 0;
        }

        void placeNew(int thing) {
            int place = firstPlaceFor(thing);
            if (place == NONE) {
                collectNow();
                place = firstPlaceFor(thing);
            }
            if (place == NONE) {
                breakDown();
                return;
            }
            put(thing, place);
            if (graph.isThing(thing)) {
                counts[thing] = 0;
                suspects[thing] = false;
            }
        }

        /** Looks for rings. */
        int collectNow() {
            findRings();
            work += suspected.size;
            int gone = suspected.size - leftOut.size;
            for (int i = 0; i < suspected.size; i++) {
                if (!leftOut.holds(suspected.get(i))) {
                    letRingGo(suspected.get(i));
                }
            }
            for (int i = 0; i < MOST_THINGS; i++) {
                suspects[i] = false;
            }
            goneByRings += gone;
            collectings++;
            return gone;
        }

        void learnNaming(int namer, int before, int after) {
            if (has(after)) {
                counts[after]++;
                work++;
            }
            if (has(before)) {
                lower(before);
            }
        }

        int countToGo() {
            findRings();
            return suspected.size - leftOut.size;
        }

        int workToDo() {
            findRings();
            return suspected.size;
        }

        int countOf(int thing) {
            return has(thing) ? counts[thing] : NONE;
        }

        boolean isSuspect(int thing) {
            return has(thing) && suspects[thing];
        }

        /** Lowers a count, and all that this brings about. What is left at the end does not hang on the order. */
        private void lower(int first) {
            fallen.empty();
            lowerOnce(first);
            for (int i = 0; i < fallen.size && i < MOST_THINGS; i++) {
                int thing = fallen.get(i);
                for (int f = 0; f < graph.fieldsOf(thing); f++) {
                    lowerOnce(graph.nameOf(thing, f));
                }
            }
        }

        private void lowerOnce(int thing) {
            if (!has(thing)) {
                return;
            }
            counts[thing]--;
            work++;
            if (counts[thing] > 0) {
                suspects[thing] = true;
            } else {
                letGo(thing);
                fallen.add(thing);
            }
        }

        private void findRings() {
            suspected.empty();
            for (int thing = 0; thing < graph.count; thing++) {
                if (isSuspect(thing)) {
                    suspected.add(thing);
                }
            }
            for (int i = 0; i < suspected.size && i < MOST_THINGS; i++) {
                graph.addNamedBy(suspected.get(i), suspected);
            }
            countNamedInside();
            findLeftOut();
        }

        private void countNamedInside() {
            Arrays.fill(namedInside, 0);
            for (int i = 0; i < suspected.size; i++) {
                int thing = suspected.get(i);
                for (int f = 0; f < graph.fieldsOf(thing); f++) {
                    int other = graph.nameOf(thing, f);
                    if (graph.isThing(other)) {
                        namedInside[other]++;
                    }
                }
            }
        }

        private void findLeftOut() {
            leftOut.empty();
            for (int i = 0; i < suspected.size; i++) {
                int thing = suspected.get(i);
                if (graph.isThing(thing) && counts[thing] > namedInside[thing]) {
                    leftOut.add(thing);
                }
            }
            for (int i = 0; i < leftOut.size && i < MOST_THINGS; i++) {
                graph.addNamedBy(leftOut.get(i), leftOut);
            }
        }

        private void letRingGo(int thing) {
            letGo(thing);
            for (int f = 0; f < graph.fieldsOf(thing); f++) {
                int other = graph.nameOf(thing, f);
                if (has(other)) {
                    counts[other]--;
                }
            }
        }
    }
}
