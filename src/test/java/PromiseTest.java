/** Each promise of the document by hand: ordinary inputs, the edges that it names, and wrong inputs. */
public final class PromiseTest {
    private static final int COPYING = 0;
    private static final int NURSERY = 1;
    private static final int MARKING = 2;
    private static final int COUNTING = 3;
    private static final Class<? extends RuntimeException> OUTSIDE = IndexOutOfBoundsException.class;
    private static final Class<? extends RuntimeException> ARGUMENT = IllegalArgumentException.class;
    private static final Class<? extends RuntimeException> STATE = IllegalStateException.class;

    private static int wrong = 0;
    private static int promise = 0;

    interface Call {
        long on(Tessera x);
    }

    public static void main(String[] args) {
        promise = 1;
        aNewObject();
        promise = 2;
        beginAnew();
        beginRefuses();
        promise = 3;
        makeNumbersAndNames();
        makeRefuses();
        makeInCopying();
        makeInNursery();
        makeInMarking();
        makeInMarkingWithSweepAtOnce();
        makeInMarkingWhereItEnds();
        makeInCounting();
        promise = 4;
        setNames();
        setRefuses();
        setCounts();
        setGreys();
        promise = 5;
        rootNames();
        rootRefuses();
        rootLetsGoInOrder();
        promise = 6;
        thingsAreCounted();
        promise = 7;
        ofThingTells();
        promise = 8;
        namedTells();
        promise = 9;
        collectCopies();
        collectGreat();
        collectEnds();
        collectRings();
        collectRefusesAndBroken();
        collectGreatOfJustAsMuchAsFits();
        promise = 10;
        smallPuts();
        smallTurnsGreat();
        smallRemembersByNumbers();
        promise = 11;
        stepsGoOn();
        stepsAreFirstGreyFirst();
        promise = 12;
        atTells();
        promise = 13;
        toldTells();
        toldOfFreeWordsAndPauses();
        toldOfBroken();
        promise = 14;
        keptTells();
        promise = 15;
        moreTells();
        promise = 16;
        wouldGoForetells();
        promise = 17;
        wouldWorkForetells();
        promise = 18;
        wouldLoseForetells();
        promise = 19;
        meanLeftIsNotCut();
        promise = 20;
        digestOfNothing();
        digestOfAll();
        System.out.println(wrong == 0 ? "all promises are kept" : wrong + " answers are not as due");
        if (wrong != 0) {
            System.exit(1);
        }
    }

    private static void due(String call, double got, double want) {
        if (got != want) {
            wrong++;
            System.out.println("promise " + promise + ": " + call + " answered " + got + ", due is " + want);
        }
    }

    /** The call throws exactly this exception, and changes nothing. */
    private static void refuses(Tessera x, String name, Class<? extends RuntimeException> why, Call call) {
        long before = x.digest();
        Class<?> got = null;
        try {
            call.on(x);
        } catch (RuntimeException e) {
            got = e.getClass();
        }
        if (got != why) {
            wrong++;
            System.out.println("promise " + promise + ": " + name + " threw " + got + ", due is " + why);
        }
        if (x.digest() != before) {
            wrong++;
            System.out.println("promise " + promise + ": " + name + " was refused, but changed something");
        }
    }

    private static void toldIs(Tessera x, int store, int... want) {
        for (int what = 0; what < want.length; what++) {
            due("told(" + store + ", " + what + ")", x.told(store, what), want[what]);
        }
    }

    private static void placesAre(Tessera x, int store, int... want) {
        for (int thing = 0; thing < want.length; thing++) {
            due("at(" + store + ", " + thing + ")", x.at(store, thing), want[thing]);
        }
    }

    private static void keptIs(Tessera x, int what, int... want) {
        for (int thing = 0; thing < want.length; thing++) {
            due("kept(" + thing + ", " + what + ")", x.kept(thing, what), want[thing]);
        }
    }

    private static void moreIs(Tessera x, int... want) {
        for (int what = 0; what < want.length; what++) {
            due("more(" + what + ")", x.more(what), want[what]);
        }
    }

    private static Tessera begun(int room) {
        Tessera x = new Tessera();
        x.begin(room);
        return x;
    }

    /** So many things of so many fields, all named by the same root, one after the other. */
    private static void makeAtRoot(Tessera x, int many, int fields, int root) {
        for (int i = 0; i < many; i++) {
            x.make(fields, root);
        }
    }

    /** Things 0 to many - 1 of so many fields, each named by field 0 of the one before, the first by root 0. */
    private static void makeChain(Tessera x, int many, int fields) {
        for (int i = 0; i < many; i++) {
            x.make(fields, i == 0 ? 0 : 1);
            if (i > 0) {
                x.set(i - 1, 0, i);
            }
        }
        x.root(1, -1);
    }

    private static void aNewObject() {
        Tessera x = new Tessera();
        due("things()", x.things(), 0);
        toldIs(x, COPYING, 0, 0, 0, 0, 0, 32, 0, 0);
        toldIs(x, NURSERY, 0, 0, 0, 0, 0, 16, 0, 0);
        toldIs(x, MARKING, 0, 0, 0, 0, 0, 64, 0, 0);
        toldIs(x, COUNTING, 0, 0, 0, 0, 0, 64, 0, 0);
        moreIs(x, 0, 0, 0, 0);
        for (int r = 0; r < 6; r++) {
            due("wouldLose", x.wouldLose(r), 0);
            due("root", x.root(r, -1), -1);
        }
        due("begin", x.begin(64), 64);
        Tessera y = new Tessera();
        y.make(3, 0);
        due("a new object's things()", new Tessera().things(), 0);
    }

    private static void beginAnew() {
        Tessera x = new Tessera();
        makeAtRoot(x, 40, 3, 0);
        x.make(1, 4);
        x.set(40, 0, 40);
        x.steps(1);
        x.collect(COUNTING);
        due("begin(41)", x.begin(41), 64);
        due("things()", x.things(), 0);
        toldIs(x, COPYING, 0, 0, 0, 0, 0, 20, 0, 0);
        toldIs(x, NURSERY, 0, 0, 0, 0, 0, 10, 0, 0);
        toldIs(x, MARKING, 0, 0, 0, 0, 0, 41, 0, 0);
        toldIs(x, COUNTING, 0, 0, 0, 0, 0, 41, 0, 0);
        moreIs(x, 0, 0, 0, 0);
        refuses(x, "root of a thing of before", OUTSIDE, o -> o.root(0, 40));
        due("root(0, -1)", x.root(0, -1), -1);
        due("root(4, -1)", x.root(4, -1), -1);
        due("digest()", x.digest(), begun(41).digest());
        due("make", x.make(1, 2), 0);
        due("named", x.named(0, 0), -1);
        x.collect(COPYING);
        placesAre(x, COPYING, 20);
        due("begin(160)", x.begin(160), 41);
        due("begin(40)", x.begin(40), 160);
        due("begin(40)", x.begin(40), 40);
        x.make(0, 0);
        placesAre(x, COPYING, 0);
    }

    private static void beginRefuses() {
        Tessera x = new Tessera();
        x.make(2, 1);
        for (int room : new int[] {39, 161, 0, -1, Integer.MAX_VALUE, Integer.MIN_VALUE}) {
            refuses(x, "begin(" + room + ")", ARGUMENT, o -> o.begin(room));
        }
        due("begin(64)", x.begin(100), 64);
        Tessera twice = new Tessera();
        for (int i = 0; i < 2; i++) {
            twice.make(3, 0);
            twice.make(3, 1);
            for (int s = 0; s < 4; s++) {
                placesAre(twice, s, 0, 4);
            }
            twice.small();
            twice.small();
            twice.root(1, -1);
            twice.set(0, 0, 0);
            twice.root(0, -1);
            twice.collect(COUNTING);
            moreIs(twice, 2, 8, 0, 1);
            twice.steps(2);
            twice.make(0, 0);
            twice.begin(64);
            moreIs(twice, 0, 0, 0, 0);
        }
        Tessera broken = begun(40);
        makeChain(broken, 40, 3);
        due("told(0, 7)", broken.told(COPYING, 7), 1);
        broken.begin(40);
        for (int s = 0; s < 4; s++) {
            due("told(s, 7)", broken.told(s, 7), 0);
            due("told(s, 3)", broken.told(s, 3), 0);
        }
        broken.make(1, 0);
        for (int s = 0; s < 4; s++) {
            due("at(s, 0)", broken.at(s, 0), 0);
        }
    }

    private static void makeNumbersAndNames() {
        Tessera x = new Tessera();
        due("make(0, 0)", x.make(0, 0), 0);
        due("make(3, 5)", x.make(3, 5), 1);
        due("make(1, 0)", x.make(1, 0), 2);
        due("fields of 1", x.ofThing(1, 0), 3);
        due("named(1, 2)", x.named(1, 2), -1);
        due("reached 0", x.ofThing(0, 1), 0);
        due("root(0, -1)", x.root(0, -1), 2);
        due("root(5, -1)", x.root(5, -1), 1);
    }

    private static void makeRefuses() {
        Tessera x = new Tessera();
        x.make(2, 0);
        for (int bad : new int[] {-1, 4, Integer.MIN_VALUE, Integer.MAX_VALUE}) {
            refuses(x, "make(" + bad + ", 0)", ARGUMENT, o -> o.make(bad, 0));
            refuses(x, "make(" + bad + ", 9)", ARGUMENT, o -> o.make(bad, 9));
        }
        for (int bad : new int[] {-1, 6, Integer.MIN_VALUE, Integer.MAX_VALUE}) {
            refuses(x, "make(0, " + bad + ")", OUTSIDE, o -> o.make(0, bad));
        }
        makeAtRoot(x, 79, 0, 1);
        due("things()", x.things(), 80);
        refuses(x, "make of the 81st", STATE, o -> o.make(0, 0));
        refuses(x, "make of the 81st", ARGUMENT, o -> o.make(4, 6));
        refuses(x, "make of the 81st", OUTSIDE, o -> o.make(3, 6));
        x.begin(64);
        due("make after begin", x.make(0, 0), 0);
    }

    private static void makeInCopying() {
        Tessera x = new Tessera();
        makeAtRoot(x, 8, 3, 0);
        placesAre(x, COPYING, 0, 4, 8, 12, 16, 20, 24, 28);
        toldIs(x, COPYING, 8, 32, 7, 0, 0, 0, 0, 0);
        // The ninth does not fit: the root still names thing 7 as it collects.
        x.make(3, 0);
        placesAre(x, COPYING, -1, -1, -1, -1, -1, -1, -1, 32, 36);
        toldIs(x, COPYING, 2, 8, 1, 4, 4, 24, 1, 0);
        // The next collecting is a pause of its own.
        makeAtRoot(x, 7, 3, 0);
        toldIs(x, COPYING, 2, 8, 1, 8, 4, 24, 2, 0);
        due("at(0, 15)", x.at(COPYING, 15), 4);
    }

    private static void makeInNursery() {
        Tessera x = new Tessera();
        makeAtRoot(x, 4, 3, 0);
        placesAre(x, NURSERY, 0, 4, 8, 12);
        x.make(3, 1);
        placesAre(x, NURSERY, -1, -1, -1, 0, 4);
        toldIs(x, NURSERY, 2, 8, 0, 4, 4, 8, 0, 0);
        moreIs(x, 1, 0);
        keptIs(x, 0, -1, -1, -1, 1, 0);
        makeAtRoot(x, 2, 3, 2);
        // Thing 3 grows old; 4 and 6 stay, and 5 is gone, for root 2 names 6.
        x.make(3, 3);
        placesAre(x, NURSERY, -1, -1, -1, 16, 0, -1, 4, 8);
        keptIs(x, 0, -1, -1, -1, 2, 1, -1, 1, 0);
        moreIs(x, 2, 4);
        toldIs(x, NURSERY, 4, 16, 0, 16, 12, 4, 0, 0);

        // Both are reached, so that a small one makes no place, and a great one follows.
        Tessera y = begun(40);
        y.make(3, 0);
        y.make(3, 1);
        y.make(3, 2);
        placesAre(y, NURSERY, 10, 14, 0);
        toldIs(y, NURSERY, 3, 12, 0, 16, 16, 6, 1, 0);
        moreIs(y, 1, 0);
    }

    private static void makeInMarking() {
        Tessera x = new Tessera();
        makeAtRoot(x, 9, 3, 0);
        due("marks", x.more(2), 0);
        // 28 words are free, which is less than 32: it marks from now on, and what is placed is black.
        x.make(3, 0);
        due("marks", x.more(2), 1);
        keptIs(x, 2, 0, 0, 0, 0, 0, 0, 0, 0, 1, 2);
        toldIs(x, MARKING, 10, 40, 9, 0, 0, 24, 0, 0);
        // Two steps: thing 8 becomes black, and then it sweeps.
        x.make(3, 0);
        due("marks", x.more(2), 0);
        placesAre(x, MARKING, -1, -1, -1, -1, -1, -1, -1, -1, 32, 36, 0);
        keptIs(x, 2, -1, -1, -1, -1, -1, -1, -1, -1, 0, 0, 0);
        toldIs(x, MARKING, 3, 12, 2, 14, 14, 28, 1, 0);
    }

    private static void makeInMarkingWithSweepAtOnce() {
        Tessera x = begun(40);
        makeAtRoot(x, 2, 3, 0);
        due("steps(1)", x.steps(1), 0);
        // The first step ahead of placing sweeps, so there is no second; nor does it begin again.
        x.make(3, 0);
        due("marks", x.more(2), 0);
        placesAre(x, MARKING, -1, 4, 0);
        toldIs(x, MARKING, 2, 8, 1, 6, 4, 32, 1, 0);
        // Exactly half of the words are free: that is not less than half, so it does not begin to mark.
        Tessera y = begun(40);
        makeAtRoot(y, 5, 3, 0);
        y.make(0, 0);
        due("marks", y.more(2), 0);
        y.make(0, 0);
        due("marks", y.more(2), 1);
    }

    private static void makeInMarkingWhereItEnds() {
        Tessera x = begun(40);
        makeChain(x, 9, 3);
        x.set(4, 0, -1);
        x.make(3, 1);
        placesAre(x, MARKING, 0, 4, 8, 12, 16, 20, 24, 28, 32, 36);
        keptIs(x, 2, 2, 2, 2, 2, 2, 2, 2, 2, 2, 2);
        due("work", x.told(MARKING, 3), 6 * 4);
        // The step ahead sweeps, with nothing gone; then it begins and ends, and 5 to 8 are gone.
        x.make(3, 2);
        placesAre(x, MARKING, 0, 4, 8, 12, 16, -1, -1, -1, -1, 36, 20);
        toldIs(x, MARKING, 7, 28, 0, 24 + 10 + 24 + 10, 44, 12, 2, 0);

        // What was marked ahead of being let go stays for the first end, and goes by the second.
        Tessera y = begun(40);
        makeChain(y, 10, 3);
        due("collect(2)", y.collect(MARKING), 0);
        due("steps(7)", y.steps(7), 1);
        y.set(2, 0, -1);
        int work = y.told(MARKING, 3);
        y.make(3, 1);
        placesAre(y, MARKING, 0, 4, 8, -1, -1, -1, -1, -1, -1, -1, 12);
        toldIs(y, MARKING, 4, 16, 0, work + 44, 44, 24, 3, 0);
        keptIs(y, 2, 0, 0, 0, -1, -1, -1, -1, -1, -1, -1, 0);
    }

    private static void makeInCounting() {
        Tessera x = new Tessera();
        makeAtRoot(x, 4, 3, 0);
        // Each is placed before the root lets the one before go.
        placesAre(x, COUNTING, -1, -1, -1, 4);
        toldIs(x, COUNTING, 1, 4, 0, 7, 2, 56, 0, 0);
        x.make(1, 1);
        placesAre(x, COUNTING, -1, -1, -1, 4, 0);
        x.make(3, 2);
        placesAre(x, COUNTING, -1, -1, -1, 4, 0, 8);
        due("free together", x.told(COUNTING, 5), 52);
        x.make(1, 3);
        placesAre(x, COUNTING, -1, -1, -1, 4, 0, 8, 2);
        keptIs(x, 3, -1, -1, -1, 1, 1, 1, 1);

        // Rings of one thing each fill the room; to place one more, it looks for them.
        Tessera y = begun(40);
        for (int i = 0; i < 10; i++) {
            y.make(3, 0);
            y.set(i, 0, i);
        }
        due("looked", y.told(COUNTING, 6), 0);
        y.make(3, 0);
        toldIs(y, COUNTING, 2, 8, 1, 10 + 10 + 9 + 9 + 2, 11, 32, 1, 0);
        placesAre(y, COUNTING, -1, -1, -1, -1, -1, -1, -1, -1, -1, 36, 0);
        due("by rings", y.more(3), 9);
    }

    private static void setNames() {
        Tessera x = new Tessera();
        x.make(2, 0);
        x.make(1, 1);
        due("set(0, 0, 1)", x.set(0, 0, 1), -1);
        due("set(0, 1, 1)", x.set(0, 1, 1), -1);
        due("set(0, 0, 0)", x.set(0, 0, 0), 1);
        due("set(0, 0, -1)", x.set(0, 0, -1), 0);
        due("set(0, 0, -1)", x.set(0, 0, -1), -1);
        due("named(0, 0)", x.named(0, 0), -1);
        due("named(0, 1)", x.named(0, 1), 1);
    }

    private static void setRefuses() {
        Tessera x = new Tessera();
        x.make(1, 0);
        x.make(1, 0);
        refuses(x, "set of one that is not reached", OUTSIDE, o -> o.set(0, 0, 1));
        refuses(x, "set to one that is not reached", OUTSIDE, o -> o.set(1, 0, 0));
        for (int bad : new int[] {-1, 2, 80, Integer.MIN_VALUE, Integer.MAX_VALUE}) {
            refuses(x, "set(" + bad + ", 0, 1)", OUTSIDE, o -> o.set(bad, 0, 1));
        }
        for (int bad : new int[] {-1, 1, 3, Integer.MIN_VALUE, Integer.MAX_VALUE}) {
            refuses(x, "set(1, " + bad + ", 1)", OUTSIDE, o -> o.set(1, bad, 1));
        }
        for (int bad : new int[] {-2, 2, 80, Integer.MIN_VALUE, Integer.MAX_VALUE}) {
            refuses(x, "set(1, 0, " + bad + ")", OUTSIDE, o -> o.set(1, 0, bad));
        }
        due("set(1, 0, 1)", x.set(1, 0, 1), -1);
    }

    private static void setCounts() {
        Tessera x = new Tessera();
        x.make(3, 0);
        x.make(1, 1);
        x.make(0, 2);
        x.set(0, 0, 1);
        x.set(1, 0, 2);
        keptIs(x, 3, 1, 2, 2);
        x.root(1, -1);
        x.root(2, -1);
        keptIs(x, 3, 1, 1, 1);
        keptIs(x, 4, 0, 1, 1);
        // The new one goes up ahead of the old one going down, so that 2 stays as 1 is let go.
        x.set(0, 0, 2);
        keptIs(x, 3, 1, -1, 1);
        keptIs(x, 4, 0, -1, 1);
        due("work", x.told(COUNTING, 3), 3 + 2 + 2 + 3);
        due("pause", x.told(COUNTING, 4), 3);
        x.set(0, 0, 2);
        due("the same again", x.told(COUNTING, 3), 10);
        x.set(0, 0, -1);
        placesAre(x, COUNTING, 0, -1, -1);
        due("work", x.told(COUNTING, 3), 11);
    }

    private static void setGreys() {
        Tessera x = new Tessera();
        x.make(2, 0);
        x.make(2, 1);
        x.make(0, 2);
        x.set(1, 0, 2);
        x.root(2, -1);
        due("steps(1)", x.steps(1), 1);
        keptIs(x, 2, 2, 1, 0);
        // A field of a grey thing greys nothing, a field of a black one does.
        x.set(1, 1, 2);
        keptIs(x, 2, 2, 1, 0);
        x.set(0, 0, 2);
        keptIs(x, 2, 2, 1, 1);
        due("steps(3)", x.steps(3), -1);
        x.set(0, 1, 2);
        keptIs(x, 2, 0, 0, 0);
    }

    private static void rootNames() {
        Tessera x = new Tessera();
        x.make(1, 0);
        due("root(5, 0)", x.root(5, 0), -1);
        due("root(0, -1)", x.root(0, -1), 0);
        due("root(0, -1)", x.root(0, -1), -1);
        due("reached", x.ofThing(0, 1), 1);
        due("root(5, 0)", x.root(5, 0), 0);
        due("work", x.told(COUNTING, 3), 3);
        due("root(5, -1)", x.root(5, -1), 0);
        due("reached", x.ofThing(0, 1), 0);

        Tessera y = new Tessera();
        y.make(1, 0);
        y.make(0, 1);
        y.set(0, 0, 1);
        y.root(1, -1);
        y.make(0, 2);
        y.steps(1);
        keptIs(y, 2, 2, 1, 1);
        y.begin(64);
        y.make(1, 0);
        y.make(1, 1);
        y.make(0, 2);
        y.set(1, 0, 2);
        y.root(2, -1);
        y.steps(1);
        keptIs(y, 2, 2, 1, 0);
        y.root(4, 2);
        keptIs(y, 2, 2, 1, 1);
    }

    private static void rootRefuses() {
        Tessera x = new Tessera();
        x.make(1, 0);
        x.make(1, 0);
        for (int bad : new int[] {-1, 6, Integer.MIN_VALUE, Integer.MAX_VALUE}) {
            refuses(x, "root(" + bad + ", 1)", OUTSIDE, o -> o.root(bad, 1));
        }
        for (int bad : new int[] {-2, 0, 2, 80, Integer.MIN_VALUE, Integer.MAX_VALUE}) {
            refuses(x, "root(0, " + bad + ")", OUTSIDE, o -> o.root(0, bad));
        }
    }

    private static void rootLetsGoInOrder() {
        Tessera x = new Tessera();
        makeChain(x, 10, 1);
        // Up for 10 roots and 9 fields, down for 9 roots.
        due("work", x.told(COUNTING, 3), 28);
        x.root(0, -1);
        due("work", x.told(COUNTING, 3), 38);
        due("pause", x.told(COUNTING, 4), 10);
        due("had", x.told(COUNTING, 0), 0);
        due("had by copying", x.told(COPYING, 0), 10);

        // A root that goes on to what its thing names keeps that.
        Tessera y = new Tessera();
        makeChain(y, 3, 1);
        due("root(0, 1)", y.root(0, 1), 0);
        placesAre(y, COUNTING, -1, 2, 4);
        keptIs(y, 3, -1, 1, 1);
    }

    private static void thingsAreCounted() {
        Tessera x = new Tessera();
        due("things()", x.things(), 0);
        makeAtRoot(x, 3, 0, 0);
        due("things()", x.things(), 3);
        x.collect(COPYING);
        due("things()", x.things(), 3);
        makeAtRoot(x, 77, 0, 0);
        due("things()", x.things(), 80);
        x.begin(70);
        due("things()", x.things(), 0);
    }

    private static void ofThingTells() {
        Tessera x = new Tessera();
        makeChain(x, 5, 2);
        for (int t = 0; t < 5; t++) {
            due("fields", x.ofThing(t, 0), 2);
            due("reached", x.ofThing(t, 1), 1);
            due("distance", x.ofThing(t, 2), t);
        }
        x.set(0, 1, 3);
        due("distance of 3", x.ofThing(3, 2), 1);
        due("distance of 4", x.ofThing(4, 2), 2);
        x.root(3, 4);
        due("distance of 4", x.ofThing(4, 2), 0);
        x.root(0, -1);
        due("reached 0", x.ofThing(0, 1), 0);
        due("distance of 0", x.ofThing(0, 2), -1);
        due("fields of 0", x.ofThing(0, 0), 2);
        for (int bad : new int[] {-1, 5, 80, Integer.MIN_VALUE, Integer.MAX_VALUE}) {
            refuses(x, "ofThing(" + bad + ", 0)", OUTSIDE, o -> o.ofThing(bad, 0));
            refuses(x, "ofThing(" + bad + ", 9)", OUTSIDE, o -> o.ofThing(bad, 9));
        }
        for (int bad : new int[] {-1, 3, Integer.MIN_VALUE, Integer.MAX_VALUE}) {
            refuses(x, "ofThing(0, " + bad + ")", ARGUMENT, o -> o.ofThing(0, bad));
        }
    }

    private static void namedTells() {
        Tessera x = new Tessera();
        makeChain(x, 2, 2);
        due("named(0, 0)", x.named(0, 0), 1);
        due("named(0, 1)", x.named(0, 1), -1);
        x.root(0, -1);
        due("named(0, 0) as it was last", x.named(0, 0), 1);
        for (int bad : new int[] {-1, 2, 80, Integer.MIN_VALUE, Integer.MAX_VALUE}) {
            refuses(x, "named(" + bad + ", 0)", OUTSIDE, o -> o.named(bad, 0));
            refuses(x, "named(0, " + bad + ")", OUTSIDE, o -> o.named(0, bad));
        }
    }

    private static void collectCopies() {
        Tessera x = new Tessera();
        x.make(0, 3);
        x.make(2, 1);
        x.make(1, 2);
        x.make(1, 4);
        x.make(0, 5);
        x.set(1, 0, 3);
        x.set(1, 1, 4);
        x.set(2, 0, 4);
        x.root(4, -1);
        x.root(5, -1);
        x.root(0, 2);
        x.root(2, -1);
        x.root(3, -1);
        // The roots name 2 and 1; 2 names 4, and 1 names 3 and 4.
        due("collect(0)", x.collect(COPYING), 1);
        placesAre(x, COPYING, -1, 34, 32, 38, 37);
        toldIs(x, COPYING, 4, 8, 0, 8, 8, 24, 1, 0);
        due("collect(0)", x.collect(COPYING), 0);
        placesAre(x, COPYING, -1, 2, 0, 6, 5);
        toldIs(x, COPYING, 4, 8, 0, 16, 8, 24, 2, 0);
        Tessera odd = begun(43);
        odd.make(0, 0);
        odd.collect(COPYING);
        placesAre(odd, COPYING, 21);
        due("free", odd.told(COPYING, 5), 20);
    }

    private static void collectGreat() {
        Tessera x = new Tessera();
        x.make(2, 0);
        x.make(2, 1);
        x.make(1, 2);
        x.root(1, -1);
        due("collect(1)", x.collect(NURSERY), 1);
        placesAre(x, NURSERY, 16, -1, 19);
        toldIs(x, NURSERY, 2, 5, 0, 5, 5, 16, 1, 0);
        x.make(0, 3);
        x.make(0, 1);
        x.root(0, -1);
        // What is old moves up, though it was put there before; then those of the nursery, by their places.
        due("collect(1)", x.collect(NURSERY), 1);
        placesAre(x, NURSERY, -1, -1, 16, 18, 19);
        keptIs(x, 0, -1, -1, 2, 2, 2);
        toldIs(x, NURSERY, 3, 4, 0, 9, 5, 16, 2, 0);
        moreIs(x, 0, 0);
    }

    private static void collectEnds() {
        Tessera x = new Tessera();
        makeChain(x, 3, 2);
        x.make(1, 1);
        x.root(1, -1);
        due("collect(2)", x.collect(MARKING), 1);
        placesAre(x, MARKING, 0, 3, 6, -1);
        toldIs(x, MARKING, 3, 9, 0, 9 + 4, 13, 55, 1, 0);
        // One that was black or grey, as it was let go, stays for this sweep.
        x.make(2, 1);
        due("steps(3)", x.steps(3), 1);
        x.root(0, -1);
        due("collect(2)", x.collect(MARKING), 0);
        due("left", x.told(MARKING, 2), 3);
        due("collect(2)", x.collect(MARKING), 3);
        due("left", x.told(MARKING, 2), 0);
        due("swept", x.told(MARKING, 6), 3);
    }

    private static void collectRings() {
        Tessera x = new Tessera();
        // A ring of 0 and 1, which names 2; 2 is named by root 3, too, and names 3.
        x.make(1, 0);
        x.make(2, 1);
        x.make(1, 3);
        x.make(0, 4);
        x.set(0, 0, 1);
        x.set(1, 0, 0);
        x.set(1, 1, 2);
        x.set(2, 0, 3);
        x.root(4, -1);
        x.root(0, -1);
        keptIs(x, 4, 1, 0, 0, 1);
        due("collect(3), as root 1 names the ring", x.collect(COUNTING), 0);
        keptIs(x, 4, 0, 0, 0, 0);
        x.root(1, -1);
        keptIs(x, 4, 0, 1, 0, 0);
        int work = x.told(COUNTING, 3);
        due("collect(3)", x.collect(COUNTING), 2);
        placesAre(x, COUNTING, -1, -1, 5, 7);
        keptIs(x, 3, -1, -1, 1, 1);
        keptIs(x, 4, -1, -1, 0, 0);
        due("work", x.told(COUNTING, 3), work + 4);
        due("pause", x.told(COUNTING, 4), 4);
        due("looked", x.told(COUNTING, 6), 2);
        due("by rings", x.more(3), 2);
        due("collect(3) without suspects", x.collect(COUNTING), 0);
        due("looked", x.told(COUNTING, 6), 3);
        due("work", x.told(COUNTING, 3), work + 4);
    }

    private static void collectRefusesAndBroken() {
        Tessera x = new Tessera();
        x.make(1, 0);
        for (int bad : new int[] {-1, 4, Integer.MIN_VALUE, Integer.MAX_VALUE}) {
            refuses(x, "collect(" + bad + ")", OUTSIDE, o -> o.collect(bad));
        }
        // 30 words of the old hold 7 things of 4 words, and the eighth in the nursery does not fit there.
        Tessera y = begun(40);
        makeChain(y, 8, 3);
        due("told(1, 7)", y.told(NURSERY, 7), 0);
        int work = y.told(NURSERY, 3);
        int great = y.told(NURSERY, 6);
        due("wouldGo(1)", y.wouldGo(NURSERY), 0);
        due("wouldWork(1)", y.wouldWork(NURSERY), 0);
        due("collect(1) that breaks", y.collect(NURSERY), 0);
        toldIs(y, NURSERY, 0, 0, 0, work, y.told(NURSERY, 4), 0, great, 1);
        due("collect(1) of a broken one", y.collect(NURSERY), 0);
        due("small() of a broken one", y.small(), 0);
        due("told(1, 6)", y.told(NURSERY, 6), great);
    }

    private static void collectGreatOfJustAsMuchAsFits() {
        Tessera x = begun(40);
        makeChain(x, 7, 3);
        x.make(1, 1);
        // 30 words are reached, and OLD has place for 30.
        due("wouldGo(1)", x.wouldGo(NURSERY), 0);
        due("wouldWork(1)", x.wouldWork(NURSERY), 30);
        due("collect(1)", x.collect(NURSERY), 0);
        due("told(1, 7)", x.told(NURSERY, 7), 0);
        due("at(1, 7)", x.at(NURSERY, 7), 38);
        x.make(0, 2);
        due("wouldWork(1)", x.wouldWork(NURSERY), 0);
        due("collect(1)", x.collect(NURSERY), 0);
        due("told(1, 7)", x.told(NURSERY, 7), 1);
    }

    private static void smallPuts() {
        Tessera x = new Tessera();
        x.make(1, 2);
        x.make(2, 1);
        x.make(0, 0);
        x.make(1, 3);
        x.make(0, 4);
        x.set(0, 0, 4);
        x.root(3, -1);
        x.root(4, -1);
        due("small()", x.small(), 1);
        // Found: 2, 1 and 0 by the roots, and then 4, which 0 names.
        placesAre(x, NURSERY, 6 - 2, 1, 0, -1, 6);
        keptIs(x, 0, 1, 1, 1, -1, 1);
        toldIs(x, NURSERY, 4, 7, 0, 7, 7, 9, 0, 0);
        x.root(1, -1);
        x.make(0, 5);
        placesAre(x, NURSERY, 4, 1, 0, -1, 6, 7);
        due("small()", x.small(), 1);
        placesAre(x, NURSERY, 17, -1, 16, -1, 19, 0);
        keptIs(x, 0, 2, -1, 2, -1, 2, 1);
        moreIs(x, 2, 4);
        toldIs(x, NURSERY, 4, 5, 0, 12, 7, 15, 0, 0);
        due("small() of nothing", new Tessera().small(), 0);
        Tessera y = new Tessera();
        y.make(2, 0);
        y.small();
        y.small();
        y.small();
        toldIs(y, NURSERY, 1, 3, 0, 6, 3, 16, 0, 0);
        moreIs(y, 3, 3);
    }

    private static void smallTurnsGreat() {
        Tessera x = begun(40);
        // Six things of 4 words and one of 3 grow old: 27 of 30 words.
        makeChain(x, 6, 3);
        x.make(2, 1);
        x.collect(NURSERY);
        due("words", x.told(NURSERY, 1), 27);
        int great = x.told(NURSERY, 6);
        x.make(2, 2);
        x.small();
        keptIs(x, 0, 2, 2, 2, 2, 2, 2, 2, 1);
        due("great", x.told(NURSERY, 6), great);
        int smalls = x.more(0);
        // 3 words of age 1 go where 3 are free.
        x.make(0, 3);
        due("small()", x.small(), 0);
        due("smalls", x.more(0), smalls + 1);
        due("grown old", x.at(NURSERY, 7), 37);
        due("of age 1", x.kept(8, 0), 1);
        x.root(3, -1);
        // Now 1 word of age 1, though nobody reaches it, is more than the 0 that are free: it is a great one.
        x.root(1, -1);
        int work = x.told(NURSERY, 3);
        due("small()", x.small(), 2);
        due("smalls", x.more(0), smalls + 1);
        due("great", x.told(NURSERY, 6), great + 1);
        due("moved up", x.at(NURSERY, 7), 34);
        due("work", x.told(NURSERY, 3), work + 27);
    }

    private static void smallRemembersByNumbers() {
        Tessera x = new Tessera();
        makeAtRoot(x, 1, 2, 0);
        makeAtRoot(x, 1, 2, 1);
        x.collect(NURSERY);
        x.make(0, 2);
        x.make(0, 3);
        x.make(0, 4);
        x.set(1, 0, 2);
        x.set(0, 0, 4);
        x.set(0, 1, 3);
        keptIs(x, 1, 1, 1, 0, 0, 0);
        x.root(2, -1);
        x.root(3, -1);
        x.root(4, -1);
        x.root(0, -1);
        due("small()", x.small(), 0);
        // Thing 0 is not reached, but remembered: its fields go first, field by field.
        placesAre(x, NURSERY, 16, 19, 2, 1, 0);
        due("left", x.told(NURSERY, 2), 3);
        due("small()", x.small(), 0);
        placesAre(x, NURSERY, 16, 19, 24, 23, 22);
        keptIs(x, 1, 0, 0, 0, 0, 0);
        due("collect(1)", x.collect(NURSERY), 3);
        placesAre(x, NURSERY, -1, 16, 19, -1, -1);
    }

    private static void stepsGoOn() {
        Tessera x = new Tessera();
        makeChain(x, 4, 1);
        due("steps(1)", x.steps(1), 1);
        keptIs(x, 2, 2, 1, 0, 0);
        due("work", x.told(MARKING, 3), 2);
        due("steps(2)", x.steps(2), 1);
        keptIs(x, 2, 2, 2, 2, 1);
        due("steps(1)", x.steps(1), 0);
        due("marks", x.more(2), 1);
        due("steps(20)", x.steps(20), -1);
        due("marks", x.more(2), 0);
        keptIs(x, 2, 0, 0, 0, 0);
        // They stop as it has swept, and do not begin again.
        toldIs(x, MARKING, 4, 8, 0, 12, 4, 56, 1, 0);
        due("steps(20)", x.steps(20), -1);
        due("swept", x.told(MARKING, 6), 2);
        due("pause", x.told(MARKING, 4), 12);
        for (int bad : new int[] {0, 21, -1, Integer.MIN_VALUE, Integer.MAX_VALUE}) {
            refuses(x, "steps(" + bad + ")", ARGUMENT, o -> o.steps(bad));
        }
        due("steps(1) of nothing", new Tessera().steps(1), -1);
        Tessera broken = begun(40);
        makeChain(broken, 30, 3);
        due("broken", broken.told(MARKING, 7), 1);
        due("steps(1) of a broken one", broken.steps(1), -1);
        due("marks", broken.more(2), 0);
    }

    private static void stepsAreFirstGreyFirst() {
        Tessera x = new Tessera();
        x.make(2, 5);
        x.make(0, 2);
        x.make(0, 1);
        x.make(0, 0);
        x.set(0, 1, 2);
        x.set(0, 0, 3);
        x.root(1, -1);
        x.root(0, -1);
        // Grey: 1 by root 2, 0 by root 5; then 3 and 2 by the fields of 0.
        due("steps(1)", x.steps(1), 1);
        keptIs(x, 2, 1, 2, 0, 0);
        due("steps(1)", x.steps(1), 2);
        keptIs(x, 2, 2, 2, 1, 1);
        due("steps(1)", x.steps(1), 1);
        keptIs(x, 2, 2, 2, 1, 2);
    }

    private static void atTells() {
        Tessera x = new Tessera();
        x.make(2, 0);
        x.make(1, 1);
        for (int s = 0; s < 4; s++) {
            placesAre(x, s, 0, 3);
        }
        x.root(0, -1);
        placesAre(x, COPYING, 0, 3);
        placesAre(x, NURSERY, 0, 3);
        placesAre(x, MARKING, 0, 3);
        placesAre(x, COUNTING, -1, 3);
        for (int s = 0; s < 4; s++) {
            x.collect(s);
        }
        placesAre(x, COPYING, -1, 32);
        placesAre(x, NURSERY, -1, 16);
        placesAre(x, MARKING, -1, 3);
        placesAre(x, COUNTING, -1, 3);
        for (int bad : new int[] {-1, 4, Integer.MIN_VALUE, Integer.MAX_VALUE}) {
            refuses(x, "at(" + bad + ", 0)", OUTSIDE, o -> o.at(bad, 0));
        }
        for (int bad : new int[] {-1, 2, 80, Integer.MIN_VALUE, Integer.MAX_VALUE}) {
            refuses(x, "at(0, " + bad + ")", OUTSIDE, o -> o.at(0, bad));
        }
    }

    private static void toldTells() {
        Tessera x = new Tessera();
        x.make(2, 0);
        x.make(1, 1);
        x.make(0, 1);
        toldIs(x, COPYING, 3, 6, 1, 0, 0, 26, 0, 0);
        toldIs(x, NURSERY, 3, 6, 1, 0, 0, 10, 0, 0);
        toldIs(x, MARKING, 3, 6, 1, 0, 0, 58, 0, 0);
        toldIs(x, COUNTING, 2, 4, 0, 4, 2, 58, 0, 0);
        for (int bad : new int[] {-1, 4, Integer.MIN_VALUE, Integer.MAX_VALUE}) {
            refuses(x, "told(" + bad + ", 0)", OUTSIDE, o -> o.told(bad, 0));
            refuses(x, "told(" + bad + ", 8)", OUTSIDE, o -> o.told(bad, 8));
        }
        for (int bad : new int[] {-1, 8, Integer.MIN_VALUE, Integer.MAX_VALUE}) {
            refuses(x, "told(0, " + bad + ")", ARGUMENT, o -> o.told(0, bad));
        }
    }

    private static void toldOfFreeWordsAndPauses() {
        Tessera x = begun(40);
        x.make(3, 0);
        makeAtRoot(x, 4, 3, 1);
        x.make(3, 2);
        x.make(3, 3);
        due("marks", x.more(2), 1);
        // Counting let 1 to 3 go one by one: 0, 4, 5 and 6 lie at 0, 8, 4 and 12.
        placesAre(x, COUNTING, 0, -1, -1, -1, 8, 4, 12);
        due("free together", x.told(COUNTING, 5), 24);
        // Marking: all are there; 1 to 3 are gone by the sweep, and the hole there is as large as the rest.
        due("free together", x.told(MARKING, 5), 12);
        x.collect(MARKING);
        placesAre(x, MARKING, 0, -1, -1, -1, 16, 20, 24);
        due("free together", x.told(MARKING, 5), 12);
        x.root(3, -1);
        x.collect(MARKING);
        due("free together", x.told(MARKING, 5), 16);
        int pause = x.told(MARKING, 4);
        due("pause of the first sweep", pause, 4 * 3 + 7);
        due("work", x.told(MARKING, 3), pause + 3 * 4 + 4);
    }

    private static void toldOfBroken() {
        Tessera x = begun(40);
        makeChain(x, 5, 3);
        toldIs(x, COPYING, 5, 20, 0, 0, 0, 0, 0, 0);
        // It collects all five, and has no place for the sixth then.
        x.make(3, 1);
        toldIs(x, COPYING, 0, 0, 0, 20, 20, 0, 1, 1);
        placesAre(x, COPYING, -1, -1, -1, -1, -1, -1);
        due("collect(0)", x.collect(COPYING), 0);
        due("wouldGo(0)", x.wouldGo(COPYING), 0);
        due("wouldWork(0)", x.wouldWork(COPYING), 0);
        x.root(1, -1);
        x.make(0, 1);
        toldIs(x, COPYING, 0, 0, 0, 20, 20, 0, 1, 1);

        Tessera y = begun(40);
        makeChain(y, 10, 3);
        toldIs(y, COUNTING, 10, 40, 0, 28, 3 - 1, 0, 0, 0);
        y.make(0, 5);
        due("counting is broken", y.told(COUNTING, 7), 1);
        due("it looked for rings first", y.told(COUNTING, 6), 1);
        due("nine were suspects", y.told(COUNTING, 3), 28 + 9);
        due("nine were suspects", y.told(COUNTING, 4), 9);
        due("marking is broken", y.told(MARKING, 7), 1);
        for (int what = 2; what < 5; what++) {
            keptIs(y, what, -1, -1, -1, -1, -1, -1, -1, -1, -1, -1, -1);
        }
        y.root(0, -1);
        due("a broken one counts no more", y.told(COUNTING, 3), 37);
    }

    private static void keptTells() {
        Tessera x = new Tessera();
        x.make(1, 0);
        keptIs(x, 0, 0);
        keptIs(x, 1, 0);
        keptIs(x, 2, 0);
        keptIs(x, 3, 1);
        keptIs(x, 4, 0);
        x.small();
        keptIs(x, 0, 1);
        x.small();
        keptIs(x, 0, 2);
        x.make(0, 1);
        x.set(0, 0, 1);
        keptIs(x, 1, 1, 0);
        x.root(1, -1);
        keptIs(x, 3, 1, 1);
        keptIs(x, 4, 0, 1);
        x.root(1, 1);
        // Suspect it stays as it goes up again, till one looks for rings.
        keptIs(x, 4, 0, 1);
        x.collect(COUNTING);
        keptIs(x, 4, 0, 0);
        x.steps(1);
        keptIs(x, 2, 2, 1);
        x.root(0, -1);
        x.collect(NURSERY);
        x.collect(MARKING);
        x.collect(MARKING);
        for (int what = 0; what < 5; what++) {
            due("kept of what is gone", x.kept(0, what), -1);
        }
        keptIs(x, 3, -1, 1);
        for (int bad : new int[] {-1, 2, 80, Integer.MIN_VALUE, Integer.MAX_VALUE}) {
            refuses(x, "kept(" + bad + ", 0)", OUTSIDE, o -> o.kept(bad, 0));
            refuses(x, "kept(" + bad + ", 5)", OUTSIDE, o -> o.kept(bad, 5));
        }
        for (int bad : new int[] {-1, 5, Integer.MIN_VALUE, Integer.MAX_VALUE}) {
            refuses(x, "kept(0, " + bad + ")", ARGUMENT, o -> o.kept(0, bad));
        }
    }

    private static void moreTells() {
        Tessera x = new Tessera();
        x.make(2, 0);
        x.set(0, 0, 0);
        x.small();
        x.small();
        x.steps(1);
        moreIs(x, 2, 3, 1, 0);
        x.steps(1);
        x.root(0, -1);
        x.collect(NURSERY);
        x.collect(COUNTING);
        moreIs(x, 2, 3, 0, 1);
        for (int bad : new int[] {-1, 4, Integer.MIN_VALUE, Integer.MAX_VALUE}) {
            refuses(x, "more(" + bad + ")", ARGUMENT, o -> o.more(bad));
        }
    }

    /** Two rings of two and a chain of three; one ring and the last of the chain are let go while marking goes on. */
    private static Tessera withMuchToDo() {
        Tessera x = new Tessera();
        for (int i = 0; i < 7; i++) {
            x.make(1, i % 6);
            if (i % 2 == 1 && i < 4) {
                x.set(i - 1, 0, i);
                x.set(i, 0, i - 1);
            }
        }
        x.root(1, -1);
        x.root(3, -1);
        x.set(4, 0, 5);
        x.set(5, 0, 6);
        x.root(0, -1);
        x.root(5, -1);
        return x;
    }

    private static void wouldGoForetells() {
        // Thing 6 took root 0 from thing 0, so that the ring of 0 and 1 went first; then 4 to 5 to 6 stays.
        Tessera x = withMuchToDo();
        long before = x.digest();
        due("wouldGo(0)", x.wouldGo(COPYING), 2);
        due("wouldGo(1)", x.wouldGo(NURSERY), 2);
        due("wouldGo(2)", x.wouldGo(MARKING), 2);
        due("wouldGo(3)", x.wouldGo(COUNTING), 2);
        due("nothing is changed", x.digest() == before ? 1 : 0, 1);
        x.steps(1);
        x.root(2, -1);
        before = x.digest();
        due("wouldGo(0)", x.wouldGo(COPYING), 4);
        due("wouldGo(2), as 2 and 3 are marked", x.wouldGo(MARKING), 2);
        due("nothing is changed", x.digest() == before ? 1 : 0, 1);
        for (int s = 0; s < 4; s++) {
            due("collect(" + s + ") as wouldGo", x.wouldGo(s), x.collect(s));
        }
        for (int bad : new int[] {-1, 4, Integer.MIN_VALUE, Integer.MAX_VALUE}) {
            refuses(x, "wouldGo(" + bad + ")", OUTSIDE, o -> o.wouldGo(bad));
        }
    }

    private static void wouldWorkForetells() {
        Tessera x = withMuchToDo();
        due("wouldWork(0)", x.wouldWork(COPYING), 10);
        due("wouldWork(1)", x.wouldWork(NURSERY), 10);
        due("wouldWork(2)", x.wouldWork(MARKING), 10 + 7);
        due("wouldWork(3)", x.wouldWork(COUNTING), 6);
        x.steps(1);
        x.root(2, -1);
        due("wouldWork(2), as one step is done", x.wouldWork(MARKING), 8 + 7);
        // Thing 2 was among what one comes to from suspects already, by thing 3.
        due("wouldWork(3)", x.wouldWork(COUNTING), 6);
        for (int s = 0; s < 4; s++) {
            int would = x.wouldWork(s);
            int before = x.told(s, 3);
            x.collect(s);
            due("the work of collect(" + s + ")", x.told(s, 3) - before, would);
        }
        for (int bad : new int[] {-1, 4, Integer.MIN_VALUE, Integer.MAX_VALUE}) {
            refuses(x, "wouldWork(" + bad + ")", OUTSIDE, o -> o.wouldWork(bad));
        }
    }

    private static void wouldLoseForetells() {
        Tessera x = new Tessera();
        makeChain(x, 5, 1);
        due("wouldLose(0)", x.wouldLose(0), 5);
        due("wouldLose(1)", x.wouldLose(1), 0);
        x.root(3, 2);
        due("wouldLose(0)", x.wouldLose(0), 2);
        due("wouldLose(3)", x.wouldLose(3), 0);
        x.root(4, 0);
        due("wouldLose(0)", x.wouldLose(0), 0);
        due("root(0, -1)", x.root(0, -1), 0);
        due("wouldLose(4)", x.wouldLose(4), 2);
        for (int bad : new int[] {-1, 6, Integer.MIN_VALUE, Integer.MAX_VALUE}) {
            refuses(x, "wouldLose(" + bad + ")", OUTSIDE, o -> o.wouldLose(bad));
        }
    }

    private static void meanLeftIsNotCut() {
        Tessera x = new Tessera();
        due("meanLeft()", x.meanLeft(), 0);
        makeAtRoot(x, 2, 1, 0);
        due("meanLeft()", x.meanLeft(), 0.75);
        x.collect(COPYING);
        due("meanLeft()", x.meanLeft(), 0.5);
        // Copying breaks by the sixth of a chain of six; the others go on, without anything left.
        Tessera y = begun(40);
        makeChain(y, 5, 3);
        y.make(3, 1);
        due("broken", y.told(COPYING, 7), 1);
        y.root(1, -1);
        due("meanLeft() of three", y.meanLeft(), 2 / 3.0);
        y.begin(40);
        makeChain(y, 30, 3);
        for (int s = 0; s < 4; s++) {
            due("broken", y.told(s, 7), 1);
        }
        due("meanLeft() of none", y.meanLeft(), 0);
    }

    private static long mix(long d, int... numbers) {
        for (int x : numbers) {
            d = d * 31 + x;
        }
        return d;
    }

    private static void digestOfNothing() {
        long d = mix(58088, 0);
        d = mix(d, 0, 0, 0, 0, 0, 32, 0, 0, 0, 0);
        d = mix(d, 0, 0, 0, 0, 0, 16, 0, 0, 0, 0);
        d = mix(d, 0, 0, 0, 0, 0, 64, 0, 0, 0, 0);
        d = mix(d, 0, 0, 0, 0, 0, 64, 0, 0, 0, 0);
        d = mix(d, 0, 0, 0, 0);
        d = mix(d, 0, 0, 0, 0, 0, 0);
        due("digest() is as by hand", new Tessera().digest() == d ? 1 : 0, 1);
    }

    private static void digestOfAll() {
        Tessera x = new Tessera();
        x.make(2, 0);
        x.make(0, 1);
        x.set(0, 1, 1);
        x.make(1, 1);
        long d = mix(58088, 3);
        d = mix(d, 2, 1, 0, -1, 1, 0, 0, 0, 0, 0, 0, 0, 1, 0);
        d = mix(d, 0, 1, 1, 3, 3, 3, 3, 0, 0, 0, 1, 1);
        d = mix(d, 1, 1, 0, -1, 4, 4, 4, 4, 0, 0, 0, 1, 0);
        d = mix(d, 3, 6, 0, 0, 0, 26, 0, 0, 0, 6);
        d = mix(d, 3, 6, 0, 0, 0, 10, 0, 0, 0, 6);
        d = mix(d, 3, 6, 0, 0, 0, 58, 0, 0, 0, 9);
        d = mix(d, 3, 6, 0, 5, 2, 58, 0, 0, 0, 1);
        d = mix(d, 0, 0, 0, 0);
        d = mix(d, 2, 1, 0, 0, 0, 0);
        due("digest() is as by hand", x.digest() == d ? 1 : 0, 1);
        due("digest() changes nothing", x.digest() == d ? 1 : 0, 1);
    }
}
