import java.util.List;
import java.util.function.Supplier;

/** The edges of collecting, of what is asked, and of what would be: promises 9 to 20. */
public final class AskedEdgeTest extends Sheet {
    public static void main(String[] args) {
        test("Promise 9: MARKING ENDS (and begins first, if it does not mark)", AskedEdgeTest::collectBegins);
        test("Promise 9: Returns how many THINGS are gone by that", AskedEdgeTest::collectReturnsGone);
        test("Promise 9: 0 if it is BROKEN", AskedEdgeTest::collectOfBroken);
        test("Promise 9: 0 if it comes to be so by that", AskedEdgeTest::collectThatBreaks);
        test("Promise 10: Returns how many THINGS are gone by that", AskedEdgeTest::smallReturnsGone);
        test("Promise 10: how many are gone, as it is GREAT instead", AskedEdgeTest::smallReturnsGoneByGreat);
        test("Promise 10: 0 if it is BROKEN", AskedEdgeTest::smallOfBroken);
        test("Promise 10: 0 if it comes to be so by that", AskedEdgeTest::smallThatBreaks);
        test("Promise 11: it begins to mark first, if it does not", AskedEdgeTest::stepsBegin);
        test("Promise 11: steps is 1 to 20", AskedEdgeTest::stepsAreAsMany);
        test("Promise 11: They stop as it has SWEPT", AskedEdgeTest::stepsStop);
        test("Promise 11: Returns how many GREY THINGS there are then", AskedEdgeTest::stepsReturnGrey);
        test("Promise 11: -1 if it has SWEPT", AskedEdgeTest::stepsReturnSwept);
        test("Promise 11: -1 if it is BROKEN", AskedEdgeTest::stepsOfBroken);
        test("Promise 12: -1 if it HAS it not", AskedEdgeTest::atNoPlace);
        test("Promise 13: 0 how many THINGS it HAS, 1 how many WORDS these have", AskedEdgeTest::toldOfHad);
        test("Promise 13: 2 how many THINGS that it HAS are not REACHED", AskedEdgeTest::toldOfLeft);
        test("Promise 13: 4 its longest PAUSE", AskedEdgeTest::toldOfPause);
        test("Promise 13: 5 how many FREE WORDS there are at most one behind the other", AskedEdgeTest::toldOfFree);
        test("Promise 13: 5 with COPYING: those behind the last THING of the half", AskedEdgeTest::toldOfFreeInHalf);
        test("Promise 13: 5 with NURSERY: those behind the last THING of the nursery",
                AskedEdgeTest::toldOfFreeInNursery);
        test("Promise 13: 6 how often it has COLLECTED, was GREAT, has SWEPT, or looked for RINGS",
                AskedEdgeTest::toldOfTimes);
        test("Promise 13: 0 each, but 3, 4, 6 and 7, if it is BROKEN", AskedEdgeTest::toldOfBroken);
        test("Promise 14: 0 its AGE with NURSERY (2, if it is OLD)", AskedEdgeTest::keptAge);
        test("Promise 14: 2 with MARKING 0 WHITE, 1 GREY, 2 BLACK", AskedEdgeTest::keptColour);
        test("Promise 14: -1 if that STORE HAS it not", AskedEdgeTest::keptOfGone);
        test("Promise 15: 0 how often NURSERY was SMALL (and not GREAT instead)", AskedEdgeTest::moreSmalls);
        test("Promise 15: 1 how many WORDS were put into OLD by these", AskedEdgeTest::moreGrownOld);
        test("Promise 15: 2 whether MARKING marks (1 or 0)", AskedEdgeTest::moreMarks);
        test("Promise 15: 3 how many THINGS COUNTING has let go by RINGS", AskedEdgeTest::moreByRings);
        test("Promise 15: what BROKEN ones have done is told of still", AskedEdgeTest::moreOfBroken);
        test("Promise 16: Returns what collect() would tell, 0 if it is BROKEN", AskedEdgeTest::wouldGoOfBroken);
        test("Promise 16: what collect() would tell, 0 if it would come to be so", AskedEdgeTest::wouldGoAndBreak);
        test("Promise 16: what collect() would tell, if it marks", AskedEdgeTest::wouldGoIfItMarks);
        test("Promise 16: what collect() would tell, in any state", AskedEdgeTest::wouldGoAsCollect);
        test("Promise 17: 0 if it is BROKEN", AskedEdgeTest::wouldWorkOfBroken);
        test("Promise 17: 0 if it would come to be so by that", AskedEdgeTest::wouldWorkAndBreak);
        test("Promise 17: the WORK that collect() would be, if it marks", AskedEdgeTest::wouldWorkIfItMarks);
        test("Promise 17: the WORK that collect() would be, in any state", AskedEdgeTest::wouldWorkAsCollect);
        test("what would be (nothing is changed)", AskedEdgeTest::nothingIsChanged);
        test("Promise 18: would not be REACHED any more", AskedEdgeTest::wouldLose);
        test("Promise 18: if it named none: as it names none", AskedEdgeTest::wouldLoseNothing);
        test("Promise 18: not be REACHED any more: what is named otherwise is", AskedEdgeTest::wouldLoseButOthers);
        test("Promise 19: not cut", AskedEdgeTest::meanIsNotCut);
        test("Promise 19: over all STORES that are not BROKEN", AskedEdgeTest::meanIsOfWholeOnes);
        test("Promise 19: 0 without any", AskedEdgeTest::meanOfNone);
        test("Promise 20: the following numbers", AskedEdgeTest::digestIsOfAll);
        test("Promise 20: which wraps around as a 64-bit integer", AskedEdgeTest::digestWraps);
        test("Promise 20: of BROKEN ones", AskedEdgeTest::digestOfBroken);
        end("AskedEdgeTest");
    }

    private static Tessera allBroken() {
        Tessera x = begun(40);
        makeChain(x, 11, 3);
        for (int store : ALL) {
            told(x, store, BROKEN, 1);
        }
        return x;
    }

    /** The nursery keeps 28 words in OLD and 4 in itself, which is 2 more than a great collecting could put. */
    private static Tessera aboutToBreak() {
        Tessera x = begun(40);
        makeChain(x, 7, 3);
        x.collect(NURSERY);
        x.make(3, 1);
        told(x, NURSERY, WORDS, 32);
        return x;
    }

    /** Things are gone, left, grey, black, white, old, young, suspect, and in a ring; the second half is in use. */
    private static Tessera inTheMidst() {
        Tessera x = begun(70);
        makeChain(x, 4, 2);
        x.small();
        x.collect(COPYING);
        x.make(1, 1);
        x.set(4, 0, 4);
        x.make(2, 2);
        x.set(3, 1, 5);
        x.small();
        x.make(3, 2);
        x.steps(2);
        x.set(6, 1, 6);
        x.set(1, 1, 6);
        x.root(1, -1);
        x.set(0, 0, 2);
        x.make(0, 3);
        x.make(1, 3);
        return x;
    }

    private static void collectBegins() {
        Tessera x = new Tessera();
        x.make(3, 0);
        x.make(0, 1);
        x.root(1, -1);
        more(x, MARKS, 0);
        due("collect(2)", x.collect(MARKING), 1);
        told(x, MARKING, WORK, 4 + 2);
        told(x, MARKING, TIMES, 1);
        more(x, MARKS, 0);
        // It marks already: it goes on, and what was grey stays.
        x.steps(1);
        x.root(0, -1);
        due("collect(2)", x.collect(MARKING), 0);
        told(x, MARKING, WORK, 6 + 4 + 1);
    }

    private static void collectReturnsGone() {
        for (int store : ALL) {
            Tessera x = new Tessera();
            due("collect of nothing", x.collect(store), 0);
            x.make(1, 0);
            due("collect of one that is reached", x.collect(store), 0);
            x.set(0, 0, 0);
            x.root(0, -1);
            due("collect of one that is not", x.collect(store), 1);
            due("collect of one that is gone", x.collect(store), 0);
        }
    }

    private static void collectOfBroken() {
        Tessera x = allBroken();
        for (int store : ALL) {
            int times = x.told(store, TIMES);
            int work = x.told(store, WORK);
            due("collect(" + store + ")", x.collect(store), 0);
            told(x, store, TIMES, times);
            told(x, store, WORK, work);
        }
    }

    private static void collectThatBreaks() {
        Tessera x = aboutToBreak();
        due("collect(1)", x.collect(NURSERY), 0);
        told(x, NURSERY, BROKEN, 1);
        // With something that would be gone.
        Tessera y = begun(40);
        makeChain(y, 7, 3);
        y.collect(NURSERY);
        y.make(3, 1);
        y.make(0, 2);
        y.root(2, -1);
        told(y, NURSERY, LEFT, 1);
        due("collect(1)", y.collect(NURSERY), 0);
        told(y, NURSERY, BROKEN, 1);
    }

    private static void smallReturnsGone() {
        Tessera x = new Tessera();
        due("small() of nothing", x.small(), 0);
        makeAt(x, 0, 4, 0);
        due("small()", x.small(), 3);
        due("small()", x.small(), 0);
        // What is old is not gone, though it is left.
        x.root(0, -1);
        due("small()", x.small(), 0);
        told(x, NURSERY, HAD, 1);
    }

    private static void smallReturnsGoneByGreat() {
        Tessera x = begun(40);
        makeChain(x, 7, 3);
        x.collect(NURSERY);
        x.set(3, 0, -1);
        x.make(3, 1);
        x.small();
        // 4 words with age 1 are more than 2: by the great one 4, 5 and 6 are gone.
        due("small()", x.small(), 3);
    }

    private static void smallOfBroken() {
        Tessera x = allBroken();
        int smalls = x.more(SMALLS);
        due("small()", x.small(), 0);
        more(x, SMALLS, smalls);
    }

    private static void smallThatBreaks() {
        Tessera x = aboutToBreak();
        x.make(0, 2);
        x.root(2, -1);
        x.small();
        told(x, NURSERY, BROKEN, 0);
        x.make(0, 2);
        x.root(2, -1);
        int smalls = x.more(SMALLS);
        due("small()", x.small(), 0);
        told(x, NURSERY, BROKEN, 1);
        more(x, SMALLS, smalls);
    }

    private static void stepsBegin() {
        Tessera x = new Tessera();
        x.make(0, 0);
        x.make(0, 1);
        more(x, MARKS, 0);
        due("steps(1)", x.steps(1), 1);
        more(x, MARKS, 1);
        kept(x, COLOUR, 2, 1);
        // It marks: it does not begin, which would make thing 2 grey.
        x.make(0, 2);
        more(x, MARKS, 0);
        due("steps(2)", x.steps(2), 1);
        x.make(1, 3);
        kept(x, COLOUR, 0, 0, 0, 0);
        due("steps(1)", x.steps(1), 3);
        x.make(1, 4);
        kept(x, COLOUR, 2, 2, 2, 1, 2);
        due("steps(1)", x.steps(1), 0);
    }

    private static void stepsAreAsMany() {
        Tessera x = begun(160);
        makeChain(x, 60, 1);
        x.collect(MARKING);
        x.collect(MARKING);
        for (int steps : new int[] {1, 20, 2, 19}) {
            int work = x.told(MARKING, WORK);
            due("steps(" + steps + ")", x.steps(steps), 1);
            told(x, MARKING, WORK, work + 2 * steps);
        }
        due("kept(41, 2)", x.kept(41, COLOUR), 2);
        due("kept(42, 2)", x.kept(42, COLOUR), 1);
    }

    private static void stepsStop() {
        Tessera x = new Tessera();
        makeChain(x, 3, 1);
        due("steps(20)", x.steps(20), -1);
        more(x, MARKS, 0);
        told(x, MARKING, TIMES, 1);
        told(x, MARKING, WORK, 6 + 3);
        // Just as many steps as there are to do, and one less.
        due("steps(4)", x.steps(4), -1);
        told(x, MARKING, TIMES, 2);
        due("steps(3)", x.steps(3), 0);
        told(x, MARKING, TIMES, 2);
    }

    private static void stepsReturnGrey() {
        Tessera x = new Tessera();
        x.make(3, 0);
        for (int i = 1; i <= 3; i++) {
            x.make(0, i);
            x.set(0, i - 1, i);
            x.root(i, -1);
        }
        due("steps(1)", x.steps(1), 3);
        due("steps(2)", x.steps(2), 1);
        due("steps(1)", x.steps(1), 0);
        more(x, MARKS, 1);
    }

    private static void stepsReturnSwept() {
        Tessera x = new Tessera();
        due("steps(1) of nothing", x.steps(1), -1);
        x.make(0, 0);
        due("steps(2)", x.steps(2), -1);
        due("steps(1)", x.steps(1), 0);
        due("steps(1)", x.steps(1), -1);
    }

    private static void stepsOfBroken() {
        Tessera x = allBroken();
        int work = x.told(MARKING, WORK);
        int swept = x.told(MARKING, TIMES);
        due("steps(1)", x.steps(1), -1);
        due("steps(20)", x.steps(20), -1);
        more(x, MARKS, 0);
        told(x, MARKING, WORK, work);
        told(x, MARKING, TIMES, swept);
    }

    private static void atNoPlace() {
        Tessera x = new Tessera();
        x.make(1, 0);
        x.set(0, 0, 0);
        x.root(0, -1);
        for (int store : ALL) {
            due("at(" + store + ", 0)", x.at(store, 0), 0);
            x.collect(store);
            due("at(" + store + ", 0)", x.at(store, 0), -1);
        }
        Tessera y = allBroken();
        for (int store : ALL) {
            due("at(" + store + ", 10)", y.at(store, 10), -1);
        }
    }

    private static void toldOfHad() {
        Tessera x = new Tessera();
        x.make(3, 0);
        x.make(0, 1);
        x.set(0, 0, 0);
        x.root(0, -1);
        for (int store : ALL) {
            told(x, store, HAD, 2);
            told(x, store, WORDS, 5);
            x.collect(store);
            told(x, store, HAD, 1);
            told(x, store, WORDS, 1);
        }
    }

    private static void toldOfLeft() {
        Tessera x = new Tessera();
        makeChain(x, 3, 1);
        x.set(2, 0, 1);
        for (int store : ALL) {
            told(x, store, LEFT, 0);
        }
        x.set(0, 0, -1);
        for (int store : ALL) {
            told(x, store, LEFT, 2);
            x.collect(store);
            told(x, store, LEFT, 0);
        }
        due("ofThing(1, 1), gone and not reached", x.ofThing(1, 1), 0);
    }

    private static void toldOfPause() {
        Tessera x = new Tessera();
        x.make(3, 0);
        x.make(1, 1);
        int[] pauses = {0, 0, 0, 1};
        for (int store : ALL) {
            told(x, store, PAUSE, pauses[store]);
        }
        x.collect(COPYING);
        x.small();
        x.steps(1);
        x.root(0, 1);
        told(x, COPYING, PAUSE, 6);
        told(x, NURSERY, PAUSE, 6);
        told(x, MARKING, PAUSE, 4);
        told(x, COUNTING, PAUSE, 2);
        // Shorter ones after it do not count.
        x.root(0, -1);
        x.collect(COPYING);
        x.small();
        x.steps(1);
        told(x, COPYING, PAUSE, 6);
        told(x, NURSERY, PAUSE, 6);
        told(x, MARKING, PAUSE, 4);
        told(x, COUNTING, PAUSE, 2);
        told(x, MARKING, WORK, 6);
    }

    private static void toldOfFree() {
        Tessera x = begun(40);
        for (int i = 0; i < 4; i++) {
            x.make(i == 1 ? 3 : 2, i);
        }
        told(x, COUNTING, FREE, 27);
        // A hole in the midst, smaller than the rest, and then larger by the last.
        x.root(1, -1);
        told(x, COUNTING, FREE, 27);
        x.root(3, -1);
        told(x, COUNTING, FREE, 30);
        x.collect(MARKING);
        told(x, MARKING, FREE, 30);
        Tessera y = begun(40);
        y.make(3, 1);
        y.make(3, 2);
        makeChain(y, 7, 3);
        y.root(1, -1);
        y.root(2, -1);
        told(y, COUNTING, FREE, 8);
        // One hole of 8 and 4 at the end: the larger is in the midst.
        places(y, COUNTING, -1, -1, 8, 12, 16, 20, 24, 28, 32);
        Tessera z = new Tessera();
        told(z, MARKING, FREE, 64);
        told(z, COUNTING, FREE, 64);
    }

    private static void toldOfFreeInHalf() {
        Tessera x = new Tessera();
        told(x, COPYING, FREE, 32);
        x.make(3, 0);
        x.make(1, 1);
        x.root(0, -1);
        // Neither what is left nor the other half is told of.
        told(x, COPYING, FREE, 26);
        x.collect(COPYING);
        told(x, COPYING, FREE, 30);
    }

    private static void toldOfFreeInNursery() {
        Tessera x = new Tessera();
        told(x, NURSERY, FREE, 16);
        x.make(3, 0);
        x.make(1, 1);
        x.root(0, -1);
        told(x, NURSERY, FREE, 10);
        x.small();
        told(x, NURSERY, FREE, 14);
        x.small();
        told(x, NURSERY, FREE, 16);
    }

    private static void toldOfTimes() {
        Tessera x = new Tessera();
        for (int store : ALL) {
            told(x, store, TIMES, 0);
            x.collect(store);
            told(x, store, TIMES, 1);
            x.make(1, 0);
            x.collect(store);
            told(x, store, TIMES, 2);
        }
        // Neither a small one, nor steps that do not sweep, are such.
        x.small();
        told(x, NURSERY, TIMES, 2);
        x.steps(1);
        told(x, MARKING, TIMES, 2);
        x.steps(20);
        told(x, MARKING, TIMES, 3);
    }

    private static void toldOfBroken() {
        Tessera x = allBroken();
        for (int store : ALL) {
            told(x, store, HAD, 0);
            told(x, store, WORDS, 0);
            told(x, store, LEFT, 0);
            told(x, store, FREE, 0);
        }
        // Copying collected five things as the sixth broke it; counting looked for rings as the last did.
        told(x, COPYING, WORK, 20);
        told(x, COPYING, PAUSE, 20);
        told(x, COPYING, TIMES, 1);
        told(x, COUNTING, WORK, 28 + 9);
        told(x, COUNTING, PAUSE, 9);
        told(x, COUNTING, TIMES, 1);
        due("marking worked", x.told(MARKING, WORK) >= 100 ? 1 : 0, 1);
        due("marking's pause", x.told(MARKING, PAUSE) >= 50 ? 1 : 0, 1);
        due("marking swept", x.told(MARKING, TIMES) >= 2 ? 1 : 0, 1);
        due("nursery worked", x.told(NURSERY, WORK) > 0 ? 1 : 0, 1);
        // As copying breaks by the place, its free words are 0, and not those that the half had left.
        Tessera y = begun(40);
        makeChain(y, 4, 3);
        y.make(0, 1);
        told(y, COPYING, FREE, 3);
        y.make(3, 2);
        told(y, COPYING, FREE, 0);
    }

    private static void keptAge() {
        Tessera x = new Tessera();
        x.make(0, 0);
        kept(x, AGE, 0);
        x.small();
        kept(x, AGE, 1);
        x.small();
        kept(x, AGE, 2);
        x.small();
        kept(x, AGE, 2);
        // A new one comes to be old by a great one at once.
        x.make(0, 1);
        x.collect(NURSERY);
        kept(x, AGE, 2, 2);
    }

    private static void keptColour() {
        Tessera x = new Tessera();
        makeChain(x, 3, 1);
        x.steps(1);
        kept(x, COLOUR, 2, 1, 0);
    }

    private static void keptOfGone() {
        Tessera x = new Tessera();
        x.make(1, 0);
        x.set(0, 0, 0);
        x.root(0, -1);
        int[] stores = {NURSERY, NURSERY, MARKING, COUNTING, COUNTING};
        int[] before = {0, 0, 0, 1, 1};
        for (int what = 0; what < 5; what++) {
            kept(x, what, before[what]);
        }
        // One store after the other lets it go.
        for (int store : ALL) {
            x.collect(store);
            for (int what = 0; what < 5; what++) {
                kept(x, what, stores[what] <= store ? -1 : before[what]);
            }
        }
    }

    private static void moreSmalls() {
        Tessera x = begun(40);
        x.small();
        more(x, SMALLS, 1);
        makeChain(x, 7, 3);
        x.collect(NURSERY);
        x.set(5, 0, -1);
        x.make(2, 1);
        x.small();
        int smalls = x.more(SMALLS);
        int greats = x.told(NURSERY, TIMES);
        due("small(), which is great instead", x.small(), 1);
        more(x, SMALLS, smalls);
        told(x, NURSERY, TIMES, greats + 1);
        due("small()", x.small(), 0);
        more(x, SMALLS, smalls + 1);
    }

    private static void moreGrownOld() {
        Tessera x = new Tessera();
        x.make(3, 0);
        x.collect(NURSERY);
        more(x, GROWN_OLD, 0);
        x.make(1, 1);
        x.make(2, 2);
        x.small();
        more(x, GROWN_OLD, 0);
        x.root(2, -1);
        x.small();
        more(x, GROWN_OLD, 2);
        x.small();
        x.collect(NURSERY);
        more(x, GROWN_OLD, 2);
    }

    private static void moreMarks() {
        Tessera x = new Tessera();
        more(x, MARKS, 0);
        x.make(0, 0);
        x.steps(1);
        more(x, MARKS, 1);
        x.steps(1);
        more(x, MARKS, 0);
        x.steps(1);
        x.begin(64);
        more(x, MARKS, 0);
    }

    private static void moreByRings() {
        Tessera x = new Tessera();
        x.make(2, 0);
        x.make(0, 1);
        x.set(0, 0, 0);
        x.root(1, -1);
        more(x, BY_RINGS, 0);
        // One is gone by its count, and one by rings.
        x.root(0, -1);
        x.collect(COUNTING);
        more(x, BY_RINGS, 1);
        x.collect(COUNTING);
        more(x, BY_RINGS, 1);
        x.make(1, 0);
        x.set(2, 0, 2);
        x.root(0, -1);
        x.collect(COUNTING);
        more(x, BY_RINGS, 2);
    }

    private static void moreOfBroken() {
        Tessera x = begun(40);
        x.make(2, 0);
        x.set(0, 0, 0);
        x.root(0, -1);
        x.collect(COUNTING);
        x.make(0, 1);
        x.small();
        x.small();
        makeChain(x, 13, 3);
        told(x, NURSERY, BROKEN, 1);
        told(x, COUNTING, BROKEN, 1);
        more(x, BY_RINGS, 1);
        due("more(0) > 1", x.more(SMALLS) > 1 ? 1 : 0, 1);
        due("more(1) > 0", x.more(GROWN_OLD) > 0 ? 1 : 0, 1);
    }

    private static void wouldGoOfBroken() {
        Tessera x = allBroken();
        for (int store : ALL) {
            due("wouldGo(" + store + ")", x.wouldGo(store), 0);
        }
    }

    private static void wouldGoAndBreak() {
        Tessera x = aboutToBreak();
        x.make(0, 2);
        x.root(2, -1);
        told(x, NURSERY, LEFT, 1);
        due("wouldGo(1)", x.wouldGo(NURSERY), 0);
        told(x, NURSERY, BROKEN, 0);
        // 30 words just fit: then it tells of the two that would be gone.
        x.root(1, -1);
        x.make(1, 1);
        due("wouldGo(1)", x.wouldGo(NURSERY), 2);
        x.make(0, 3);
        due("wouldGo(1)", x.wouldGo(NURSERY), 0);
        told(x, NURSERY, BROKEN, 0);
    }

    private static void wouldGoIfItMarks() {
        Tessera x = new Tessera();
        makeChain(x, 4, 1);
        due("steps(1)", x.steps(1), 1);
        x.set(1, 0, -1);
        x.root(0, -1);
        // Black 0 and grey 1 would stay, and white 2 and 3 would go.
        due("wouldGo(2)", x.wouldGo(MARKING), 2);
        due("wouldGo(0)", x.wouldGo(COPYING), 4);
        due("collect(2)", x.collect(MARKING), 2);
        due("wouldGo(2)", x.wouldGo(MARKING), 2);
        due("collect(2)", x.collect(MARKING), 2);
        due("wouldGo(2)", x.wouldGo(MARKING), 0);
    }

    private static void wouldGoAsCollect() {
        for (int store : ALL) {
            for (int more = 0; more < 3; more++) {
                Tessera x = inTheMidst();
                makeAt(x, 2, more, 2);
                int would = x.wouldGo(store);
                due("wouldGo(" + store + ")", would, x.collect(store));
                due("wouldGo(" + store + ") once more", x.wouldGo(store), x.collect(store));
            }
        }
    }

    private static void wouldWorkOfBroken() {
        Tessera x = allBroken();
        for (int store : ALL) {
            due("wouldWork(" + store + ")", x.wouldWork(store), 0);
        }
    }

    private static void wouldWorkAndBreak() {
        Tessera x = aboutToBreak();
        due("wouldWork(1)", x.wouldWork(NURSERY), 0);
        told(x, NURSERY, BROKEN, 0);
        // Just as many as fit.
        x.root(1, -1);
        x.make(1, 1);
        due("wouldWork(1)", x.wouldWork(NURSERY), 30);
        x.make(0, 2);
        due("wouldWork(1)", x.wouldWork(NURSERY), 0);
    }

    private static void wouldWorkIfItMarks() {
        Tessera x = new Tessera();
        makeChain(x, 4, 2);
        due("wouldWork(2)", x.wouldWork(MARKING), 12 + 4);
        x.steps(1);
        due("wouldWork(2)", x.wouldWork(MARKING), 9 + 4);
        x.set(1, 0, -1);
        x.root(0, -1);
        due("wouldWork(2)", x.wouldWork(MARKING), 3 + 4);
        x.steps(1);
        due("wouldWork(2)", x.wouldWork(MARKING), 4);
        x.steps(1);
        due("wouldWork(2)", x.wouldWork(MARKING), 2);
        x.collect(MARKING);
        due("wouldWork(2)", x.wouldWork(MARKING), 0);
    }

    private static void wouldWorkAsCollect() {
        for (int store : ALL) {
            for (int more = 0; more < 3; more++) {
                Tessera x = inTheMidst();
                makeAt(x, 2, more, 2);
                for (int i = 0; i < 2; i++) {
                    int would = x.wouldWork(store);
                    int before = x.told(store, WORK);
                    x.collect(store);
                    due("wouldWork(" + store + ")", would, x.told(store, WORK) - before);
                }
            }
        }
    }

    /** Marking does not mark, and there is something to be gone in each store. */
    private static Tessera atRest() {
        Tessera x = new Tessera();
        makeChain(x, 3, 2);
        x.set(2, 0, 1);
        x.make(1, 1);
        x.set(3, 0, 3);
        x.set(0, 0, -1);
        x.root(1, -1);
        return x;
    }

    private static void nothingIsChanged() {
        List<Supplier<Tessera>> states = List.of(Tessera::new, AskedEdgeTest::atRest, AskedEdgeTest::inTheMidst,
                AskedEdgeTest::aboutToBreak, AskedEdgeTest::allBroken);
        for (Supplier<Tessera> state : states) {
            for (int store : ALL) {
                Tessera x = state.get();
                x.wouldGo(store);
                goOnAlike("asked by wouldGo(" + store + ")", x, state.get());
                Tessera y = state.get();
                y.wouldWork(store);
                goOnAlike("asked by wouldWork(" + store + ")", y, state.get());
            }
            Tessera x = state.get();
            for (int root = 0; root < 6; root++) {
                x.wouldLose(root);
            }
            goOnAlike("asked by wouldLose", x, state.get());
            Tessera y = state.get();
            y.meanLeft();
            goOnAlike("asked by meanLeft", y, state.get());
            Tessera z = state.get();
            z.digest();
            goOnAlike("asked by digest", z, state.get());
        }
    }

    private static void wouldLose() {
        Tessera x = new Tessera();
        makeChain(x, 4, 1);
        x.make(0, 3);
        due("wouldLose(0)", x.wouldLose(0), 4);
        due("wouldLose(3)", x.wouldLose(3), 1);
        // What is not reached as it is, is not lost.
        x.set(1, 0, -1);
        due("wouldLose(0)", x.wouldLose(0), 2);
    }

    private static void wouldLoseNothing() {
        Tessera x = new Tessera();
        for (int root = 0; root < 6; root++) {
            due("wouldLose(" + root + ") of nothing", x.wouldLose(root), 0);
        }
        makeChain(x, 2, 1);
        for (int root = 1; root < 6; root++) {
            due("wouldLose(" + root + ")", x.wouldLose(root), 0);
        }
    }

    private static void wouldLoseButOthers() {
        Tessera x = new Tessera();
        makeChain(x, 4, 1);
        x.root(5, 2);
        due("wouldLose(0)", x.wouldLose(0), 2);
        due("wouldLose(5)", x.wouldLose(5), 0);
        x.root(3, 0);
        due("wouldLose(0), as root 3 names the same", x.wouldLose(0), 0);
        due("wouldLose(3)", x.wouldLose(3), 0);
        x.root(3, -1);
        x.set(3, 0, 0);
        due("wouldLose(0), as 3 names it", x.wouldLose(0), 0);
        due("wouldLose(5), as 1 names 2", x.wouldLose(5), 0);
        x.root(0, -1);
        due("wouldLose(5)", x.wouldLose(5), 4);
    }

    private static void meanIsNotCut() {
        Tessera x = new Tessera();
        due("meanLeft()", x.meanLeft(), 0);
        x.make(0, 0);
        x.root(0, -1);
        due("meanLeft()", x.meanLeft(), 0.75);
        x.collect(COPYING);
        due("meanLeft()", x.meanLeft(), 0.5);
        x.collect(NURSERY);
        due("meanLeft()", x.meanLeft(), 0.25);
        x.collect(MARKING);
        due("meanLeft()", x.meanLeft(), 0);
    }

    private static void meanIsOfWholeOnes() {
        Tessera x = begun(40);
        makeChain(x, 6, 3);
        told(x, COPYING, BROKEN, 1);
        due("meanLeft()", x.meanLeft(), 0);
        x.root(0, -1);
        told(x, COUNTING, HAD, 0);
        due("meanLeft()", x.meanLeft(), 12 / 3.0);
        x.collect(NURSERY);
        due("meanLeft()", x.meanLeft(), 6 / 3.0);
        Tessera y = begun(40);
        makeChain(y, 6, 3);
        y.make(0, 1);
        y.root(1, -1);
        due("meanLeft()", y.meanLeft(), 2 / 3.0);
    }

    private static void meanOfNone() {
        Tessera x = allBroken();
        due("meanLeft()", x.meanLeft(), 0);
        x.root(0, -1);
        due("meanLeft()", x.meanLeft(), 0);
    }

    private static long digestByHand(Tessera x) {
        long d = 31 * 58088L + x.things();
        for (int thing = 0; thing < x.things(); thing++) {
            for (int what = 0; what < 3; what++) {
                d = d * 31 + x.ofThing(thing, what);
            }
            for (int field = 0; field < x.ofThing(thing, 0); field++) {
                d = d * 31 + x.named(thing, field);
            }
            for (int store = 0; store < 4; store++) {
                d = d * 31 + x.at(store, thing);
            }
            for (int what = 0; what < 5; what++) {
                d = d * 31 + x.kept(thing, what);
            }
        }
        for (int store = 0; store < 4; store++) {
            for (int what = 0; what < 8; what++) {
                d = d * 31 + x.told(store, what);
            }
            d = d * 31 + x.wouldGo(store);
            d = d * 31 + x.wouldWork(store);
        }
        for (int what = 0; what < 4; what++) {
            d = d * 31 + x.more(what);
        }
        for (int root = 0; root < 6; root++) {
            d = d * 31 + x.wouldLose(root);
        }
        return d;
    }

    private static void digestIs(Tessera x) {
        long want = digestByHand(x);
        if (x.digest() != want) {
            fault("digest() answered " + x.digest() + ", due is " + want);
        }
    }

    private static void digestIsOfAll() {
        digestIs(new Tessera());
        digestIs(begun(41));
        digestIs(inTheMidst());
        Tessera x = new Tessera();
        x.make(3, 0);
        digestIs(x);
    }

    private static void digestWraps() {
        Tessera x = begun(160);
        boolean below = false;
        for (int i = 0; i < 80; i++) {
            x.make(i % 4, i % 6);
            digestIs(x);
            below |= x.digest() < 0;
        }
        due("a digest below 0", below ? 1 : 0, 1);
    }

    private static void digestOfBroken() {
        digestIs(allBroken());
        Tessera x = begun(40);
        makeChain(x, 6, 3);
        digestIs(x);
    }
}
