import java.util.function.Supplier;

/** What the tests of the edges share. Each test bears the sentence of the document that it is for. */
abstract class Sheet {
    static final int COPYING = 0;
    static final int NURSERY = 1;
    static final int MARKING = 2;
    static final int COUNTING = 3;
    static final int[] ALL = {COPYING, NURSERY, MARKING, COUNTING};
    static final int HAD = 0;
    static final int WORDS = 1;
    static final int LEFT = 2;
    static final int WORK = 3;
    static final int PAUSE = 4;
    static final int FREE = 5;
    static final int TIMES = 6;
    static final int BROKEN = 7;
    static final int AGE = 0;
    static final int REMEMBERED = 1;
    static final int COLOUR = 2;
    static final int COUNT = 3;
    static final int SUSPECT = 4;
    static final int SMALLS = 0;
    static final int GROWN_OLD = 1;
    static final int MARKS = 2;
    static final int BY_RINGS = 3;

    private static int tests = 0;
    private static int wrong = 0;
    private static String sentence = "";

    interface Test {
        void run();
    }

    interface Call {
        double on(Tessera x);
    }

    static void test(String words, Test test) {
        sentence = words;
        tests++;
        try {
            test.run();
        } catch (RuntimeException e) {
            fault("a call threw " + e + " at " + e.getStackTrace()[0]);
        }
    }

    static void end(String name) {
        System.out.println(name + ": " + tests + " sentences, " + wrong + " answers not as due");
        if (wrong != 0 || tests == 0) {
            System.exit(1);
        }
    }

    static void fault(String what) {
        wrong++;
        System.out.println("\"" + sentence + "\": " + what);
    }

    static void due(String call, double got, double want) {
        if (got != want) {
            fault(call + " answered " + got + ", due is " + want);
        }
    }

    static void told(Tessera x, int store, int what, int want) {
        due("told(" + store + ", " + what + ")", x.told(store, what), want);
    }

    static void more(Tessera x, int what, int want) {
        due("more(" + what + ")", x.more(what), want);
    }

    /** The places of things 0, 1, .. in a store. */
    static void places(Tessera x, int store, int... want) {
        for (int thing = 0; thing < want.length; thing++) {
            due("at(" + store + ", " + thing + ")", x.at(store, thing), want[thing]);
        }
    }

    /** What a store keeps of things 0, 1, .. */
    static void kept(Tessera x, int what, int... want) {
        for (int thing = 0; thing < want.length; thing++) {
            due("kept(" + thing + ", " + what + ")", x.kept(thing, what), want[thing]);
        }
    }

    static Tessera begun(int room) {
        Tessera x = new Tessera();
        x.begin(room);
        return x;
    }

    /** Makes so many things of so many fields, named by the same root one after the other. */
    static void makeAt(Tessera x, int root, int many, int fields) {
        for (int i = 0; i < many; i++) {
            x.make(fields, root);
        }
    }

    /** Makes things of so many fields in a chain: root 0 names the first, and field 0 of each the next. */
    static void makeChain(Tessera x, int many, int fields) {
        int first = x.things();
        for (int i = 0; i < many; i++) {
            makeLast(x, i == 0 ? -1 : first + i - 1, fields);
        }
    }

    /** Makes a thing that root 0 names, or field 0 of the last one if there is one; root 5 is used on the way. */
    static int makeLast(Tessera x, int last, int fields) {
        if (last < 0) {
            return x.make(fields, 0);
        }
        int thing = x.make(fields, 5);
        x.set(last, 0, thing);
        x.root(5, -1);
        return thing;
    }

    static void dropAllRoots(Tessera x) {
        for (int root = 0; root < 6; root++) {
            x.root(root, -1);
        }
    }

    /** What a call did: the name of the exception that it threw, or its answer. */
    static String answer(Tessera x, Call call) {
        try {
            return Double.toString(call.on(x));
        } catch (RuntimeException e) {
            return e.getClass().getName();
        }
    }

    /**
     * A call on an object throws exactly this exception, and changes nothing: a twin without the call goes on alike.
     */
    static void refuses(Supplier<Tessera> made, String name, Class<? extends RuntimeException> why, Call call) {
        Tessera x = made.get();
        String got = answer(x, call);
        if (!got.equals(why.getName())) {
            fault(name + " answered " + got + ", due is throws." + why.getSimpleName());
        }
        goOnAlike("after " + name, x, made.get());
        Tessera other = made.get();
        answer(other, call);
        if (other.digest() != made.get().digest()) {
            fault("after " + name + " digest() is not the same");
        }
    }

    /**
     * All that can be told of things and stores, as one number. What would be is left out, so that a test can ask it of
     * one object alone, and see whether that changes anything.
     */
    private static long facts(Tessera x) {
        long sum = x.things();
        for (int thing = 0; thing < x.things(); thing++) {
            for (int what = 0; what < 3; what++) {
                sum = sum * 37 + x.ofThing(thing, what);
            }
            for (int field = 0; field < x.ofThing(thing, 0); field++) {
                sum = sum * 37 + x.named(thing, field);
            }
            for (int what = 0; what < 5; what++) {
                sum = sum * 37 + x.kept(thing, what);
            }
            for (int store : ALL) {
                sum = sum * 37 + x.at(store, thing);
            }
        }
        for (int store : ALL) {
            for (int what = 0; what < 8; what++) {
                sum = sum * 37 + x.told(store, what);
            }
        }
        for (int what = 0; what < 4; what++) {
            sum = sum * 37 + x.more(what);
        }
        return sum;
    }

    /** All that can be told of both is the same, now and after each of many calls. */
    static void goOnAlike(String when, Tessera x, Tessera y) {
        Call[] calls = {
            o -> o.things(), o -> o.meanLeft(), o -> o.steps(1), o -> o.make(2, 3), o -> o.make(1, 4),
            o -> o.set(o.things() - 2, 1, o.things() - 1), o -> o.steps(1), o -> o.set(o.things() - 1, 0, 0),
            o -> o.small(), o -> o.steps(1), o -> o.set(0, 0, 1), o -> o.set(1, 0, 0), o -> o.make(3, 4),
            o -> o.steps(2), o -> o.root(1, -1), o -> o.root(2, 0), o -> o.make(2, 5), o -> o.small(),
            o -> o.root(5, -1), o -> o.collect(0), o -> o.steps(20), o -> o.root(0, -1), o -> o.root(2, -1),
            o -> o.root(3, -1), o -> o.collect(3), o -> o.collect(2), o -> o.root(4, -1), o -> o.collect(1),
            o -> o.collect(0), o -> o.collect(2), o -> o.collect(3), o -> o.make(0, 0), o -> o.begin(50),
            o -> o.make(3, 0), o -> o.steps(1),
        };
        if (facts(x) != facts(y)) {
            fault(when + " what can be told is not the same");
            return;
        }
        for (int i = 0; i < calls.length; i++) {
            String got = answer(x, calls[i]);
            String want = answer(y, calls[i]);
            if (!got.equals(want) || facts(x) != facts(y)) {
                fault(when + ", and " + i + " calls more, the next answered " + got + ", and without it " + want);
                return;
            }
        }
    }
}
