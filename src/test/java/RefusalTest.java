import java.util.List;
import java.util.function.Supplier;

/** What each method throws, that it changes nothing by that, and which exception goes first. */
public final class RefusalTest extends Sheet {
    private static final Class<? extends RuntimeException> OUTSIDE = IndexOutOfBoundsException.class;
    private static final Class<? extends RuntimeException> ARGUMENT = IllegalArgumentException.class;
    private static final Class<? extends RuntimeException> STATE = IllegalStateException.class;
    private static final int LEAST = Integer.MIN_VALUE;
    private static final int MOST = Integer.MAX_VALUE;
    private static final List<Supplier<Tessera>> STATES =
            List.of(Tessera::new, RefusalTest::busy, RefusalTest::full, RefusalTest::broken);

    public static void main(String[] args) {
        test("begin throws IllegalArgumentException if room is not 40 to 160, and changes nothing",
                RefusalTest::begin);
        test("make throws IllegalArgumentException if fields is not 0 to 3, and changes nothing",
                RefusalTest::makeOfFields);
        test("make throws IndexOutOfBoundsException if there is no such ROOT, and changes nothing",
                RefusalTest::makeAtNoRoot);
        test("make throws IllegalStateException if there were 80, and changes nothing", RefusalTest::makeOfOneMore);
        test("make throws the exception that is named first", RefusalTest::makeByTheFirst);
        test("set throws IndexOutOfBoundsException if there is no such THING, and changes nothing",
                RefusalTest::setOfNone);
        test("set throws IndexOutOfBoundsException if there is no such other, and changes nothing",
                RefusalTest::setToNone);
        test("set throws IndexOutOfBoundsException if thing is not REACHED, and changes nothing",
                RefusalTest::setOfUnreached);
        test("set throws IndexOutOfBoundsException if other is not REACHED, and changes nothing",
                RefusalTest::setToUnreached);
        test("set throws IndexOutOfBoundsException if thing has no such FIELD, and changes nothing",
                RefusalTest::setOfNoField);
        test("set throws IndexOutOfBoundsException where it would name the same again, too", RefusalTest::setSame);
        test("root throws IndexOutOfBoundsException if there is no such ROOT, and changes nothing",
                RefusalTest::rootOfNone);
        test("root throws IndexOutOfBoundsException if there is no such THING, and changes nothing",
                RefusalTest::rootToNone);
        test("root throws IndexOutOfBoundsException if that is not REACHED, and changes nothing",
                RefusalTest::rootToUnreached);
        test("ofThing throws IndexOutOfBoundsException if there is no such THING, and changes nothing",
                RefusalTest::ofNoThing);
        test("ofThing throws IllegalArgumentException if what is not 0 to 2, and changes nothing",
                RefusalTest::ofThingOfWhat);
        test("ofThing throws the exception that is named first", RefusalTest::ofThingByTheFirst);
        test("named throws IndexOutOfBoundsException if there is no such THING, and changes nothing",
                RefusalTest::namedOfNone);
        test("named throws IndexOutOfBoundsException if there is no such FIELD, and changes nothing",
                RefusalTest::namedOfNoField);
        test("collect throws IndexOutOfBoundsException if there is no such STORE, and changes nothing",
                RefusalTest::collectOfNone);
        test("steps throws IllegalArgumentException if steps is not 1 to 20, and changes nothing",
                RefusalTest::steps);
        test("at throws IndexOutOfBoundsException if there is no such STORE, and changes nothing",
                RefusalTest::atOfNoStore);
        test("at throws IndexOutOfBoundsException if there is no such THING, and changes nothing",
                RefusalTest::atOfNoThing);
        test("told throws IndexOutOfBoundsException if there is no such STORE, and changes nothing",
                RefusalTest::toldOfNone);
        test("told throws IllegalArgumentException if what is not 0 to 7, and changes nothing",
                RefusalTest::toldOfWhat);
        test("told throws the exception that is named first", RefusalTest::toldByTheFirst);
        test("kept throws IndexOutOfBoundsException if there is no such THING, and changes nothing",
                RefusalTest::keptOfNone);
        test("kept throws IllegalArgumentException if what is not 0 to 4, and changes nothing",
                RefusalTest::keptOfWhat);
        test("kept throws the exception that is named first", RefusalTest::keptByTheFirst);
        test("more throws IllegalArgumentException if what is not 0 to 3, and changes nothing",
                RefusalTest::moreOfWhat);
        test("wouldGo throws IndexOutOfBoundsException if there is no such STORE, and changes nothing",
                RefusalTest::wouldGoOfNone);
        test("wouldWork throws IndexOutOfBoundsException if there is no such STORE, and changes nothing",
                RefusalTest::wouldWorkOfNone);
        test("wouldLose throws IndexOutOfBoundsException if there is no such ROOT, and changes nothing",
                RefusalTest::wouldLoseOfNone);
        end("RefusalTest");
    }

    /**
     * Marking marks, and has things of each colour; counting has suspects and a ring; an old thing is remembered, and
     * the nursery has one of age 1; copying has its second half in use. Things 3, 4 and 6 are not reached.
     */
    private static Tessera busy() {
        Tessera x = begun(70);
        x.make(2, 0);
        x.make(1, 1);
        x.small();
        x.small();
        x.make(0, 2);
        x.set(0, 0, 2);
        x.small();
        x.make(1, 3);
        x.make(2, 3);
        x.set(4, 0, 4);
        x.make(3, 3);
        x.make(1, 4);
        x.set(6, 0, 5);
        x.root(4, -1);
        x.root(4, 1);
        x.set(1, 0, 5);
        x.collect(COPYING);
        x.steps(1);
        x.make(1, 5);
        x.set(7, 0, 7);
        x.set(0, 1, 2);
        x.root(2, -1);
        return x;
    }

    private static Tessera full() {
        Tessera x = new Tessera();
        makeAt(x, 0, 79, 1);
        x.make(2, 1);
        x.set(78, 0, 79);
        x.steps(1);
        return x;
    }

    private static Tessera broken() {
        Tessera x = begun(40);
        makeChain(x, 12, 3);
        return x;
    }

    /** The call is refused with each of these numbers, in each state. */
    private static void refused(String name, Class<? extends RuntimeException> why, Numbered call, int... bad) {
        for (Supplier<Tessera> state : STATES) {
            for (int number : bad) {
                refuses(state, name + " of " + number, why, x -> call.on(x, number));
            }
        }
    }

    /** The call is refused with each number that no thing has, in each state. */
    private static void refusedOfNoThing(String name, Numbered call) {
        for (Supplier<Tessera> state : STATES) {
            int many = state.get().things();
            for (int number : new int[] {LEAST, -2, many, many + 1, 80, MOST}) {
                refuses(state, name + " of " + number, OUTSIDE, x -> call.on(x, number));
            }
        }
    }

    interface Numbered {
        double on(Tessera x, int number);
    }

    private static void begin() {
        refused("begin", ARGUMENT, (x, room) -> x.begin(room), LEAST, -1, 0, 39, 161, MOST);
        due("begin(40)", new Tessera().begin(40), 64);
        due("begin(160)", new Tessera().begin(160), 64);
    }

    private static void makeOfFields() {
        refused("make", ARGUMENT, (x, fields) -> x.make(fields, 0), LEAST, -1, 4, MOST);
        due("make(0, 0)", new Tessera().make(0, 0), 0);
        due("make(3, 0)", new Tessera().make(3, 0), 0);
    }

    private static void makeAtNoRoot() {
        refused("make", OUTSIDE, (x, root) -> x.make(1, root), LEAST, -1, 6, MOST);
        due("make(1, 0)", new Tessera().make(1, 0), 0);
        due("make(1, 5)", new Tessera().make(1, 5), 0);
    }

    private static void makeOfOneMore() {
        refuses(RefusalTest::full, "make", STATE, x -> x.make(0, 0));
        refuses(RefusalTest::full, "make", STATE, x -> x.make(3, 5));
        Tessera x = new Tessera();
        makeAt(x, 0, 79, 0);
        due("make of the 80th", x.make(0, 0), 79);
    }

    private static void makeByTheFirst() {
        for (Supplier<Tessera> state : STATES) {
            refuses(state, "make(-1, -1)", ARGUMENT, x -> x.make(-1, -1));
            refuses(state, "make(4, 6)", ARGUMENT, x -> x.make(4, 6));
        }
        refuses(RefusalTest::full, "make(4, 0) of the 81st", ARGUMENT, x -> x.make(4, 0));
        refuses(RefusalTest::full, "make(0, 6) of the 81st", OUTSIDE, x -> x.make(0, 6));
        refuses(RefusalTest::full, "make(4, 6) of the 81st", ARGUMENT, x -> x.make(4, 6));
    }

    private static void setOfNone() {
        refusedOfNoThing("set", (x, thing) -> x.set(thing, 0, -1));
        refused("set", OUTSIDE, (x, thing) -> x.set(thing, 0, -1), -1);
        refuses(RefusalTest::busy, "set(8, 0, 0)", OUTSIDE, x -> x.set(8, 0, 0));
    }

    private static void setToNone() {
        refusedOfNoThing("set", (x, other) -> x.set(0, 0, other));
        due("set to none", busy().set(0, 0, -1), 2);
    }

    private static void setOfUnreached() {
        refuses(RefusalTest::busy, "set(3, 0, 0)", OUTSIDE, x -> x.set(3, 0, 0));
        refuses(RefusalTest::busy, "set(3, 0, -1)", OUTSIDE, x -> x.set(3, 0, -1));
        refuses(RefusalTest::busy, "set(4, 0, -1), which names itself", OUTSIDE, x -> x.set(4, 0, -1));
        due("set(5, 0, 0), which fields reach", busy().set(5, 0, 0), -1);
    }

    private static void setToUnreached() {
        refuses(RefusalTest::busy, "set(0, 0, 3)", OUTSIDE, x -> x.set(0, 0, 3));
        refuses(RefusalTest::busy, "set(0, 0, 4), which names itself", OUTSIDE, x -> x.set(0, 0, 4));
        due("set(0, 0, 5), which fields reach", busy().set(0, 0, 5), 2);
    }

    private static void setOfNoField() {
        int[] reached = {0, 1, 2, 5, 7};
        int[] fields = {2, 1, 0, 3, 1};
        for (int i = 0; i < reached.length; i++) {
            int thing = reached[i];
            int many = fields[i];
            for (int field : new int[] {LEAST, -1, many, 3, MOST}) {
                refuses(RefusalTest::busy, "set of field " + field, OUTSIDE, x -> x.set(thing, field, 0));
            }
        }
        due("set of the last field", busy().set(5, 2, 0), -1);
    }

    private static void setSame() {
        // Field 0 of thing 4 names 4 already, and there is nothing that field 2 of thing 0 could name.
        refuses(RefusalTest::busy, "set(4, 0, 4)", OUTSIDE, x -> x.set(4, 0, 4));
        refuses(RefusalTest::busy, "set(0, 2, -1)", OUTSIDE, x -> x.set(0, 2, -1));
    }

    private static void rootOfNone() {
        refused("root", OUTSIDE, (x, root) -> x.root(root, -1), LEAST, -1, 6, MOST);
        refuses(RefusalTest::busy, "root(6, 0)", OUTSIDE, x -> x.root(6, 0));
        due("root(5, -1)", busy().root(5, -1), 7);
    }

    private static void rootToNone() {
        refusedOfNoThing("root", (x, thing) -> x.root(0, thing));
        due("root to none", busy().root(0, -1), 0);
    }

    private static void rootToUnreached() {
        refuses(RefusalTest::busy, "root(0, 3)", OUTSIDE, x -> x.root(0, 3));
        refuses(RefusalTest::busy, "root(2, 4), which names itself", OUTSIDE, x -> x.root(2, 4));
        due("root(2, 5), which fields reach", busy().root(2, 5), -1);
    }

    private static void ofNoThing() {
        refusedOfNoThing("ofThing", (x, thing) -> x.ofThing(thing, 0));
        refused("ofThing", OUTSIDE, (x, thing) -> x.ofThing(thing, 2), -1);
    }

    private static void ofThingOfWhat() {
        for (int what : new int[] {LEAST, -1, 3, MOST}) {
            refuses(RefusalTest::busy, "ofThing of what " + what, ARGUMENT, x -> x.ofThing(7, what));
            refuses(RefusalTest::busy, "ofThing of what " + what, ARGUMENT, x -> x.ofThing(3, what));
        }
    }

    private static void ofThingByTheFirst() {
        for (int what : new int[] {LEAST, -1, 3, MOST}) {
            refuses(RefusalTest::busy, "ofThing(8, " + what + ")", OUTSIDE, x -> x.ofThing(8, what));
            refused("ofThing", OUTSIDE, (x, thing) -> x.ofThing(thing, what), -1, 80);
        }
    }

    private static void namedOfNone() {
        refusedOfNoThing("named", (x, thing) -> x.named(thing, 0));
        refused("named", OUTSIDE, (x, thing) -> x.named(thing, 0), -1);
    }

    private static void namedOfNoField() {
        int[] fields = {2, 1, 0, 1, 2, 3};
        for (int i = 0; i < fields.length; i++) {
            int thing = i;
            for (int field : new int[] {LEAST, -1, fields[i], 3, MOST}) {
                refuses(RefusalTest::busy, "named of field " + field, OUTSIDE, x -> x.named(thing, field));
            }
        }
        due("named of the last field", busy().named(5, 2), -1);
    }

    private static void collectOfNone() {
        refused("collect", OUTSIDE, (x, store) -> x.collect(store), LEAST, -1, 4, MOST);
    }

    private static void steps() {
        refused("steps", ARGUMENT, (x, steps) -> x.steps(steps), LEAST, -1, 0, 21, MOST);
    }

    private static void atOfNoStore() {
        refused("at", OUTSIDE, (x, store) -> x.at(store, 0), LEAST, -1, 4, MOST);
        refused("at", OUTSIDE, (x, store) -> x.at(store, 80), -1, 4);
    }

    private static void atOfNoThing() {
        refusedOfNoThing("at", (x, thing) -> x.at(3, thing));
        refused("at", OUTSIDE, (x, thing) -> x.at(0, thing), -1);
    }

    private static void toldOfNone() {
        refused("told", OUTSIDE, (x, store) -> x.told(store, 0), LEAST, -1, 4, MOST);
    }

    private static void toldOfWhat() {
        for (int store : ALL) {
            refused("told", ARGUMENT, (x, what) -> x.told(store, what), LEAST, -1, 8, MOST);
        }
    }

    private static void toldByTheFirst() {
        for (int what : new int[] {LEAST, -1, 8, MOST}) {
            refused("told", OUTSIDE, (x, store) -> x.told(store, what), -1, 4);
        }
    }

    private static void keptOfNone() {
        refusedOfNoThing("kept", (x, thing) -> x.kept(thing, 0));
        refused("kept", OUTSIDE, (x, thing) -> x.kept(thing, 4), -1);
    }

    private static void keptOfWhat() {
        for (int what : new int[] {LEAST, -1, 5, MOST}) {
            refuses(RefusalTest::busy, "kept of what " + what, ARGUMENT, x -> x.kept(0, what));
            // No store has thing 0 of a broken one.
            refuses(RefusalTest::broken, "kept of what " + what, ARGUMENT, x -> x.kept(0, what));
        }
    }

    private static void keptByTheFirst() {
        for (int what : new int[] {LEAST, -1, 5, MOST}) {
            refuses(RefusalTest::busy, "kept(8, " + what + ")", OUTSIDE, x -> x.kept(8, what));
            refused("kept", OUTSIDE, (x, thing) -> x.kept(thing, what), -1, 80);
        }
    }

    private static void moreOfWhat() {
        refused("more", ARGUMENT, (x, what) -> x.more(what), LEAST, -1, 4, MOST);
    }

    private static void wouldGoOfNone() {
        refused("wouldGo", OUTSIDE, (x, store) -> x.wouldGo(store), LEAST, -1, 4, MOST);
    }

    private static void wouldWorkOfNone() {
        refused("wouldWork", OUTSIDE, (x, store) -> x.wouldWork(store), LEAST, -1, 4, MOST);
    }

    private static void wouldLoseOfNone() {
        refused("wouldLose", OUTSIDE, (x, root) -> x.wouldLose(root), LEAST, -1, 6, MOST);
    }
}
