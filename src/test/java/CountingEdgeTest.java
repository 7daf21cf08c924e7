/** The edges of store 3, sentence by sentence of 5 COUNTING. */
public final class CountingEdgeTest extends Sheet {
    public static void main(String[] args) {
        test("places as MARKING does: at the smallest place", CountingEdgeTest::placesInTheFirstHole);
        test("places as MARKING does: up to the end of the ROOM", CountingEdgeTest::placesAtTheEnd);
        test("The COUNT: how many FIELDS and ROOTS name it", CountingEdgeTest::counts);
        test("The COUNT: FIELDS of THINGS that it HAS", CountingEdgeTest::countsThoseItHas);
        test("The COUNT: FIELDS of THINGS that it HAS, REACHED or not", CountingEdgeTest::countsUnreached);
        test("(the same again is nothing at all, in all STORES): set", CountingEdgeTest::setsTheSame);
        test("(the same again is nothing at all, in all STORES): root", CountingEdgeTest::rootNamesTheSame);
        test("the COUNT of the new one goes up, and then that of the old one down: by a FIELD",
                CountingEdgeTest::goesUpFirstByField);
        test("the COUNT of the new one goes up, and then that of the old one down: by a ROOT",
                CountingEdgeTest::goesUpFirstByRoot);
        test("WORK: 1 each time that a COUNT goes up or down", CountingEdgeTest::worksByCounts);
        test("WORK: also by what is brought about", CountingEdgeTest::worksByWhatIsBroughtAbout);
        test("As a COUNT goes down to 0, the THING is gone", CountingEdgeTest::isGone);
        test("As a COUNT goes down to 0: by make, which takes its ROOT", CountingEdgeTest::isGoneByMake);
        test("those that its FIELDS name go down, in order, each with all that it brings about",
                CountingEdgeTest::bringsAbout);
        test("those that its FIELDS name go down: each FIELD for itself", CountingEdgeTest::bringsAboutTwice);
        test("As a COUNT does not go down to 0, the THING stays: a ring", CountingEdgeTest::ringStays);
        test("as it goes down, but not to 0, it is SUSPECT", CountingEdgeTest::isSuspect);
        test("it is SUSPECT: by what is brought about, too", CountingEdgeTest::isSuspectByWhatIsBroughtAbout);
        test("it is SUSPECT: not by going up, nor at first", CountingEdgeTest::isNotSuspect);
        test("and stays so as it goes up again", CountingEdgeTest::staysSuspect);
        test("If there is no place, it looks for RINGS first", CountingEdgeTest::looksForRings);
        test("If there is no place: not, if there is one", CountingEdgeTest::doesNotLook);
        test("if there is none then, it is BROKEN", CountingEdgeTest::breaks);
        test("if there is none then, it is BROKEN: whatever is FREE in pieces", CountingEdgeTest::breaksInPieces);
        test("RINGS: of all THINGS to which one can come from SUSPECTS", CountingEdgeTest::comesFromSuspects);
        test("RINGS: (themselves, too)", CountingEdgeTest::takesSuspectsThemselves);
        test("RINGS: no others, REACHED or not", CountingEdgeTest::takesNoOthers);
        test("those are left out whose COUNT is more than how many FIELDS of such THINGS name them",
                CountingEdgeTest::leavesOut);
        test("whose COUNT is more: by a FIELD of one to which one cannot come", CountingEdgeTest::leavesOutByField);
        test("and all to which one can come from these", CountingEdgeTest::leavesOutAllBehind);
        test("the others are gone, and the COUNTS of what their FIELDS name go down", CountingEdgeTest::countsGoDown);
        test("(nothing more is brought about by that)", CountingEdgeTest::bringsNothingAbout);
        test("None is SUSPECT any more", CountingEdgeTest::noneIsSuspect);
        test("RINGS: WORK: 1 for each THING to which one can come from SUSPECTS", CountingEdgeTest::ringsWork);
        test("RINGS: WORK: without SUSPECTS none", CountingEdgeTest::ringsWithoutSuspects);
        end("CountingEdgeTest");
    }

    private static void placesInTheFirstHole() {
        Tessera x = begun(80);
        int[] fields = {0, 1, 0, 3, 0, 2, 0};
        int[] roots = {0, 4, 1, 5, 2, 4, 3};
        for (int i = 0; i < fields.length; i++) {
            x.make(fields[i], roots[i]);
            if (i == 3) {
                x.set(3, 0, 1);
                x.root(4, -1);
            }
        }
        x.root(4, -1);
        x.root(5, -1);
        places(x, COUNTING, 0, -1, 3, -1, 8, -1, 12);
        x.make(2, 4);
        due("at(3, 7)", x.at(COUNTING, 7), 4);
        x.make(1, 5);
        due("at(3, 8)", x.at(COUNTING, 8), 1);
        x.make(0, 5);
        due("at(3, 9)", x.at(COUNTING, 9), 7);
        x.make(3, 5);
        due("at(3, 10)", x.at(COUNTING, 10), 13);
    }

    private static void placesAtTheEnd() {
        Tessera x = begun(42);
        makeChain(x, 10, 3);
        x.make(1, 1);
        due("at(3, 10)", x.at(COUNTING, 10), 40);
        told(x, COUNTING, TIMES, 0);
        told(x, COUNTING, FREE, 0);
    }

    private static void counts() {
        Tessera x = new Tessera();
        x.make(3, 0);
        x.make(2, 1);
        kept(x, COUNT, 1, 1);
        x.set(0, 0, 1);
        x.set(0, 2, 1);
        kept(x, COUNT, 1, 3);
        x.set(1, 0, 1);
        kept(x, COUNT, 1, 4);
        x.root(5, 1);
        kept(x, COUNT, 1, 5);
        x.set(0, 0, 0);
        kept(x, COUNT, 2, 4);
        x.root(1, -1);
        kept(x, COUNT, 2, 3);
    }

    private static void countsThoseItHas() {
        Tessera x = new Tessera();
        x.make(1, 0);
        x.make(1, 1);
        x.set(0, 0, 1);
        kept(x, COUNT, 1, 2);
        x.root(0, -1);
        // 0 is gone here, and names 1 still.
        kept(x, COUNT, -1, 1);
        due("named(0, 0)", x.named(0, 0), 1);
    }

    private static void countsUnreached() {
        Tessera x = new Tessera();
        x.make(2, 0);
        x.make(1, 1);
        x.set(0, 0, 0);
        x.set(0, 1, 1);
        x.root(0, -1);
        due("ofThing(0, 1)", x.ofThing(0, 1), 0);
        kept(x, COUNT, 1, 2);
        x.collect(COUNTING);
        kept(x, COUNT, -1, 1);
    }

    /** Every store has much that could be told of: colours, ages, counts and suspects. */
    private static Tessera inTheMidst() {
        Tessera x = new Tessera();
        makeChain(x, 3, 2);
        x.make(0, 1);
        x.set(0, 1, 2);
        x.collect(COPYING);
        x.small();
        x.steps(2);
        x.make(1, 2);
        return x;
    }

    private static void setsTheSame() {
        Tessera x = inTheMidst();
        long before = x.digest();
        due("set(0, 0, 1)", x.set(0, 0, 1), 1);
        due("set(0, 1, 2)", x.set(0, 1, 2), 2);
        due("set(2, 1, -1)", x.set(2, 1, -1), -1);
        due("the same digest", x.digest() == before ? 1 : 0, 1);
        goOnAlike("the same again by set", x, inTheMidst());
        // One with a count of 1, which would be gone for a moment, and one that would be suspect.
        Tessera y = new Tessera();
        makeChain(y, 2, 1);
        y.collect(COUNTING);
        y.set(0, 0, 1);
        kept(y, COUNT, 1, 1);
        kept(y, SUSPECT, 0, 0);
        told(y, COUNTING, WORK, 4 + 1);
    }

    private static void rootNamesTheSame() {
        Tessera x = inTheMidst();
        long before = x.digest();
        due("root(0, 0)", x.root(0, 0), 0);
        due("root(1, 3)", x.root(1, 3), 3);
        due("root(5, -1)", x.root(5, -1), -1);
        due("the same digest", x.digest() == before ? 1 : 0, 1);
        goOnAlike("the same again by root", x, inTheMidst());
        Tessera y = new Tessera();
        y.make(0, 3);
        y.root(3, 0);
        kept(y, COUNT, 1);
        kept(y, SUSPECT, 0);
        told(y, COUNTING, WORK, 1);
    }

    private static void goesUpFirstByField() {
        Tessera x = new Tessera();
        makeChain(x, 3, 1);
        // 1 is gone by that, but 2, which it names, went up ahead of it.
        due("set(0, 0, 2)", x.set(0, 0, 2), 1);
        places(x, COUNTING, 0, -1, 4);
        kept(x, COUNT, 1, -1, 1);
        kept(x, SUSPECT, 0, -1, 1);
    }

    private static void goesUpFirstByRoot() {
        Tessera x = new Tessera();
        makeChain(x, 3, 1);
        due("root(0, 2)", x.root(0, 2), 0);
        places(x, COUNTING, -1, -1, 4);
        kept(x, COUNT, -1, -1, 1);
        kept(x, SUSPECT, -1, -1, 1);
    }

    private static void worksByCounts() {
        Tessera x = new Tessera();
        x.make(2, 0);
        told(x, COUNTING, WORK, 1);
        x.make(0, 1);
        told(x, COUNTING, WORK, 2);
        x.set(0, 0, 1);
        told(x, COUNTING, WORK, 3);
        x.set(0, 1, 1);
        x.set(0, 1, 0);
        told(x, COUNTING, WORK, 6);
        x.set(0, 1, -1);
        told(x, COUNTING, WORK, 7);
        x.root(3, 0);
        told(x, COUNTING, WORK, 8);
        x.root(3, 1);
        told(x, COUNTING, WORK, 10);
        x.root(3, -1);
        told(x, COUNTING, WORK, 11);
        told(x, COUNTING, PAUSE, 2);
    }

    private static void worksByWhatIsBroughtAbout() {
        Tessera x = new Tessera();
        makeChain(x, 6, 2);
        x.set(0, 1, 5);
        int work = x.told(COUNTING, WORK);
        x.root(0, -1);
        // Each goes down once, and 5 twice.
        told(x, COUNTING, WORK, work + 7);
        told(x, COUNTING, PAUSE, 7);
        told(x, COUNTING, HAD, 0);
    }

    private static void isGone() {
        Tessera x = new Tessera();
        x.make(1, 0);
        x.root(1, 0);
        x.root(0, -1);
        places(x, COUNTING, 0);
        x.root(1, -1);
        places(x, COUNTING, -1);
        kept(x, COUNT, -1);
        told(x, COUNTING, FREE, 64);
        told(x, COUNTING, HAD, 0);
        told(x, COUNTING, TIMES, 0);
        more(x, BY_RINGS, 0);
    }

    private static void isGoneByMake() {
        Tessera x = new Tessera();
        makeChain(x, 3, 1);
        x.make(0, 0);
        places(x, COUNTING, -1, -1, -1, 6);
        told(x, COUNTING, PAUSE, 4);
    }

    private static void bringsAbout() {
        // 0 names 1 and 2; 1 names 3 and 4, 2 names 4 and 5; 5 is named by root 3, too.
        Tessera x = new Tessera();
        x.make(2, 0);
        x.make(2, 1);
        x.make(2, 2);
        x.make(0, 3);
        x.make(0, 4);
        x.make(0, 5);
        x.set(0, 0, 1);
        x.set(0, 1, 2);
        x.set(1, 0, 3);
        x.set(1, 1, 4);
        x.set(2, 0, 4);
        x.set(2, 1, 5);
        for (int root = 1; root < 5; root++) {
            x.root(root, -1);
        }
        int work = x.told(COUNTING, WORK);
        x.root(0, -1);
        places(x, COUNTING, -1, -1, -1, -1, -1, 11);
        told(x, COUNTING, WORK, work + 1 + 2 + 4);
        kept(x, COUNT, -1, -1, -1, -1, -1, 1);
        kept(x, SUSPECT, -1, -1, -1, -1, -1, 1);
        Tessera y = begun(160);
        makeChain(y, 79, 1);
        y.root(0, -1);
        told(y, COUNTING, HAD, 0);
        told(y, COUNTING, PAUSE, 79);
        // What was gone by a call before brings nothing about any more.
        Tessera z = new Tessera();
        z.make(1, 0);
        z.make(1, 1);
        z.make(0, 2);
        z.set(0, 0, 2);
        z.set(1, 0, 2);
        z.root(0, -1);
        kept(z, COUNT, -1, 1, 2);
        z.root(1, -1);
        kept(z, COUNT, -1, -1, 1);
        told(z, COUNTING, WORK, 5 + 2 + 2);
    }

    private static void bringsAboutTwice() {
        Tessera x = new Tessera();
        x.make(3, 0);
        x.make(0, 1);
        for (int field = 0; field < 3; field++) {
            x.set(0, field, 1);
        }
        kept(x, COUNT, 1, 4);
        int work = x.told(COUNTING, WORK);
        x.root(0, -1);
        kept(x, COUNT, -1, 1);
        told(x, COUNTING, WORK, work + 4);
    }

    private static void ringStays() {
        Tessera x = new Tessera();
        x.make(1, 0);
        x.make(1, 1);
        x.set(0, 0, 1);
        x.set(1, 0, 0);
        x.root(0, -1);
        x.root(1, -1);
        places(x, COUNTING, 0, 2);
        kept(x, COUNT, 1, 1);
        told(x, COUNTING, LEFT, 2);
        Tessera y = new Tessera();
        y.make(1, 0);
        y.set(0, 0, 0);
        y.root(0, -1);
        places(y, COUNTING, 0);
        kept(y, COUNT, 1);
        kept(y, SUSPECT, 1);
    }

    private static void isSuspect() {
        Tessera x = new Tessera();
        x.make(1, 0);
        x.root(1, 0);
        kept(x, SUSPECT, 0);
        x.root(1, -1);
        kept(x, COUNT, 1);
        kept(x, SUSPECT, 1);
        Tessera y = new Tessera();
        y.make(1, 0);
        y.set(0, 0, 0);
        y.set(0, 0, -1);
        kept(y, SUSPECT, 1);
    }

    private static void isSuspectByWhatIsBroughtAbout() {
        Tessera x = new Tessera();
        makeChain(x, 3, 1);
        x.root(3, 2);
        x.collect(COUNTING);
        kept(x, SUSPECT, 0, 0, 0);
        x.root(0, -1);
        kept(x, SUSPECT, -1, -1, 1);
        kept(x, COUNT, -1, -1, 1);
    }

    private static void isNotSuspect() {
        Tessera x = new Tessera();
        x.make(2, 0);
        x.make(0, 1);
        x.set(0, 0, 1);
        x.set(0, 1, 1);
        x.root(2, 1);
        kept(x, SUSPECT, 0, 0);
        // Begun anew, what comes by the same number is none, either.
        x.root(2, -1);
        kept(x, SUSPECT, 0, 1);
        x.begin(64);
        x.make(0, 0);
        x.make(0, 1);
        kept(x, SUSPECT, 0, 0);
    }

    private static void staysSuspect() {
        Tessera x = new Tessera();
        x.make(1, 0);
        x.root(1, 0);
        x.root(1, -1);
        x.root(1, 0);
        x.root(2, 0);
        kept(x, COUNT, 3);
        kept(x, SUSPECT, 1);
        x.collect(COUNTING);
        kept(x, SUSPECT, 0);
    }

    private static void looksForRings() {
        Tessera x = begun(40);
        for (int i = 0; i < 10; i++) {
            x.make(3, 0);
            x.set(i, 0, i);
        }
        told(x, COUNTING, TIMES, 0);
        told(x, COUNTING, FREE, 0);
        x.make(0, 1);
        told(x, COUNTING, TIMES, 1);
        told(x, COUNTING, BROKEN, 0);
        more(x, BY_RINGS, 9);
        told(x, COUNTING, HAD, 2);
        due("at(3, 10)", x.at(COUNTING, 10), 0);
        told(x, COUNTING, PAUSE, 10);
    }

    private static void doesNotLook() {
        Tessera x = begun(40);
        for (int i = 0; i < 9; i++) {
            x.make(3, 0);
            x.set(i, 0, i);
        }
        x.make(3, 1);
        told(x, COUNTING, TIMES, 0);
        told(x, COUNTING, LEFT, 8);
        due("at(3, 9)", x.at(COUNTING, 9), 36);
    }

    private static void breaks() {
        Tessera x = begun(40);
        makeChain(x, 10, 3);
        told(x, COUNTING, FREE, 0);
        told(x, COUNTING, BROKEN, 0);
        int work = x.told(COUNTING, WORK);
        x.make(0, 1);
        told(x, COUNTING, BROKEN, 1);
        told(x, COUNTING, HAD, 0);
        told(x, COUNTING, TIMES, 1);
        more(x, BY_RINGS, 0);
        // All but the first are suspects, and nothing is counted for the one that is not placed.
        told(x, COUNTING, WORK, work + 9);
        told(x, COUNTING, PAUSE, 9);
    }

    /** Chains of 2 words and of 3 words, in turn, the latter of which is let go: 24 words are free, in threes. */
    private static Tessera inPieces() {
        Tessera x = begun(40);
        for (int i = 0; i < 8; i++) {
            int thing = x.make(1, i == 0 ? 0 : 5);
            int other = x.make(2, i == 0 ? 1 : 4);
            if (i > 0) {
                x.set(thing - 2, 0, thing);
                x.set(other - 2, 0, other);
            }
        }
        x.root(4, -1);
        x.root(5, -1);
        told(x, COUNTING, FREE, 0);
        x.root(1, -1);
        told(x, COUNTING, FREE, 3);
        told(x, COUNTING, WORDS, 16);
        return x;
    }

    private static void breaksInPieces() {
        Tessera x = inPieces();
        x.make(3, 1);
        told(x, COUNTING, BROKEN, 1);
        told(x, COUNTING, TIMES, 1);
        // With a ring where two of the pieces come together there is a place.
        Tessera y = inPieces();
        y.set(14, 0, 14);
        y.set(12, 0, -1);
        y.make(3, 1);
        told(y, COUNTING, BROKEN, 0);
        told(y, COUNTING, TIMES, 1);
        more(y, BY_RINGS, 1);
        due("at(3, 16)", y.at(COUNTING, 16), 32);
    }

    private static void comesFromSuspects() {
        Tessera x = new Tessera();
        // 0 is a suspect, and a ring by itself; by it one comes to 1, and by this to 2 and 3.
        makeChain(x, 4, 2);
        x.set(0, 1, 0);
        x.set(3, 0, 1);
        x.collect(COUNTING);
        x.root(0, -1);
        kept(x, SUSPECT, 1, 0, 0, 0);
        due("wouldWork(3)", x.wouldWork(COUNTING), 4);
        due("collect(3)", x.collect(COUNTING), 4);
        told(x, COUNTING, HAD, 0);
        more(x, BY_RINGS, 4);
    }

    private static void takesSuspectsThemselves() {
        Tessera x = new Tessera();
        makeChain(x, 2, 1);
        x.set(1, 0, 0);
        x.collect(COUNTING);
        kept(x, SUSPECT, 0, 0);
        x.root(0, -1);
        kept(x, SUSPECT, 1, 0);
        due("wouldWork(3)", x.wouldWork(COUNTING), 2);
        due("collect(3)", x.collect(COUNTING), 2);
        // One whose field names none, so that one comes to it only as it is a suspect.
        Tessera y = new Tessera();
        y.make(0, 0);
        y.root(1, 0);
        y.root(1, -1);
        due("wouldWork(3)", y.wouldWork(COUNTING), 1);
        due("collect(3)", y.collect(COUNTING), 0);
        places(y, COUNTING, 0);
    }

    private static void takesNoOthers() {
        Tessera x = new Tessera();
        x.make(1, 0);
        x.make(1, 1);
        x.make(1, 2);
        x.set(0, 0, 1);
        x.set(2, 0, 2);
        x.root(1, -1);
        kept(x, SUSPECT, 0, 1, 0);
        // One comes neither to 0, which names the suspect, nor to 2, which names itself.
        due("wouldWork(3)", x.wouldWork(COUNTING), 1);
        x.collect(COUNTING);
        places(x, COUNTING, 0, 2, 4);
        x.root(2, -1);
        kept(x, SUSPECT, 0, 0, 1);
        due("wouldWork(3)", x.wouldWork(COUNTING), 1);
        due("collect(3)", x.collect(COUNTING), 1);
    }

    private static void leavesOut() {
        Tessera x = new Tessera();
        makeChain(x, 2, 2);
        x.set(1, 0, 0);
        x.root(1, 1);
        x.root(0, -1);
        kept(x, COUNT, 1, 2);
        // Root 1 names 1, and it names 0.
        due("collect(3)", x.collect(COUNTING), 0);
        places(x, COUNTING, 0, 3);
        // Named twice by such things, and as often counted.
        x.set(1, 1, 0);
        x.root(1, -1);
        kept(x, COUNT, 2, 1);
        due("collect(3)", x.collect(COUNTING), 2);
    }

    private static void leavesOutByField() {
        Tessera x = new Tessera();
        // A ring of 1 and 2, which 0 names: by that it is left, though no root names it.
        makeChain(x, 3, 1);
        x.set(2, 0, 1);
        kept(x, COUNT, 1, 2, 1);
        kept(x, SUSPECT, 0, 1, 1);
        due("wouldWork(3)", x.wouldWork(COUNTING), 2);
        due("collect(3)", x.collect(COUNTING), 0);
        told(x, COUNTING, HAD, 3);
    }

    private static void leavesOutAllBehind() {
        Tessera x = new Tessera();
        // 0 is a ring that is left and names 1, which names 2; 3 is a ring that is not, and names 1 and 2.
        x.make(3, 0);
        x.make(2, 1);
        x.make(1, 2);
        x.make(3, 3);
        x.set(0, 0, 1);
        x.set(0, 1, 0);
        x.set(1, 0, 2);
        x.set(3, 0, 3);
        x.set(3, 1, 1);
        x.set(3, 2, 2);
        x.root(1, -1);
        x.root(2, -1);
        x.root(4, 0);
        x.root(4, -1);
        x.root(3, -1);
        kept(x, SUSPECT, 1, 1, 1, 1);
        kept(x, COUNT, 2, 2, 2, 1);
        due("collect(3)", x.collect(COUNTING), 1);
        places(x, COUNTING, 0, 4, 7, -1);
    }

    private static void countsGoDown() {
        Tessera x = new Tessera();
        x.make(3, 0);
        x.make(0, 1);
        x.set(0, 0, 0);
        x.set(0, 1, 1);
        x.set(0, 2, 1);
        x.root(0, -1);
        kept(x, COUNT, 1, 3);
        due("collect(3)", x.collect(COUNTING), 1);
        places(x, COUNTING, -1, 4);
        kept(x, COUNT, -1, 1);
        // The count is right from then on.
        x.root(1, -1);
        places(x, COUNTING, -1, -1);
    }

    private static void bringsNothingAbout() {
        Tessera x = new Tessera();
        x.make(2, 0);
        x.make(0, 1);
        x.set(0, 0, 0);
        x.set(0, 1, 1);
        x.root(0, -1);
        int work = x.told(COUNTING, WORK);
        x.collect(COUNTING);
        // 1 went down, but not to 0: by that it is no suspect, and no work but that of looking is done.
        kept(x, COUNT, -1, 1);
        kept(x, SUSPECT, -1, 0);
        told(x, COUNTING, WORK, work + 2);
    }

    private static void noneIsSuspect() {
        Tessera x = new Tessera();
        makeChain(x, 4, 1);
        kept(x, SUSPECT, 0, 1, 1, 1);
        x.collect(COUNTING);
        kept(x, SUSPECT, 0, 0, 0, 0);
        due("wouldWork(3)", x.wouldWork(COUNTING), 0);
    }

    private static void ringsWork() {
        Tessera x = new Tessera();
        makeChain(x, 3, 2);
        x.make(1, 1);
        x.set(0, 1, 0);
        x.set(2, 0, 3);
        x.root(0, -1);
        int work = x.told(COUNTING, WORK);
        // To 3, which root 1 names, one can come, too: it is left, and goes down without work.
        due("collect(3)", x.collect(COUNTING), 3);
        told(x, COUNTING, WORK, work + 4);
        kept(x, COUNT, -1, -1, -1, 1);
    }

    private static void ringsWithoutSuspects() {
        Tessera x = new Tessera();
        x.make(1, 0);
        x.set(0, 0, 0);
        due("collect(3)", x.collect(COUNTING), 0);
        told(x, COUNTING, WORK, 2);
        told(x, COUNTING, TIMES, 1);
        due("collect(3)", new Tessera().collect(COUNTING), 0);
    }
}
