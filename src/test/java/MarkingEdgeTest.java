/** The edges of store 2, sentence by sentence of 4 MARKING. */
public final class MarkingEdgeTest extends Sheet {
    public static void main(String[] args) {
        test("at the smallest place from which on enough WORDS are FREE", MarkingEdgeTest::placesInTheFirstHole);
        test("enough WORDS: a hole that is too small is left", MarkingEdgeTest::leavesSmallHoles);
        test("enough WORDS: up to the end of the ROOM", MarkingEdgeTest::placesAtTheEnd);
        test("A THING is WHITE (at first)", MarkingEdgeTest::isWhiteAtFirst);
        test("if it marks, there are 2 STEPS", MarkingEdgeTest::doesTwoSteps);
        test("(1, if it SWEEPS by that)", MarkingEdgeTest::doesOneStepIfItSweeps);
        test("if it marks, there are 2 STEPS: it may SWEEP by the second", MarkingEdgeTest::sweepsByTheSecond);
        test("otherwise, if less than ROOM / 2 WORDS are FREE: not, if it marked", MarkingEdgeTest::doesNotBeginAgain);
        test("if less than ROOM / 2 WORDS are FREE, it begins to mark", MarkingEdgeTest::begins);
        test("if less than ROOM / 2 WORDS are FREE: not, if just as many are", MarkingEdgeTest::doesNotBeginYet);
        test("all THINGS that ROOTS name become GREY, ROOT by ROOT", MarkingEdgeTest::greysRootByRoot);
        test("all THINGS that ROOTS name become GREY: once, and none by a ROOT that names none",
                MarkingEdgeTest::greysOnce);
        test("If there is no such place, it ENDS", MarkingEdgeTest::ends);
        test("it ENDS (and begins first, if it does not mark)", MarkingEdgeTest::beginsAndEnds);
        test("If there is no such place: it does not END, if there is one", MarkingEdgeTest::doesNotEnd);
        test("if there is none then, it begins and ENDS once more", MarkingEdgeTest::endsOnceMore);
        test("if there is none then, it is BROKEN", MarkingEdgeTest::breaks);
        test("if there is none then, it is BROKEN: whatever is FREE in pieces", MarkingEdgeTest::breaksInPieces);
        test("What is placed while it marks is BLACK", MarkingEdgeTest::placesBlack);
        test("What is placed while it marks (as it is then): as it has begun by that", MarkingEdgeTest::placesBlackAtOnce);
        test("What is placed while it marks (as it is then): as it has SWEPT by that", MarkingEdgeTest::placesWhite);
        test("A STEP: that which is so for the longest time becomes BLACK", MarkingEdgeTest::takesTheLongestGrey);
        test("those that its FIELDS name, in order, become GREY", MarkingEdgeTest::greysFieldByField);
        test("become GREY, if they are WHITE", MarkingEdgeTest::greysWhiteOnesOnly);
        test("WORK: 1, and 1 for each FIELD that it has", MarkingEdgeTest::worksByFields);
        test("If there is no GREY one at the beginning of a STEP, it SWEEPS instead", MarkingEdgeTest::sweepsInstead);
        test("If there is no GREY one at the beginning: as no ROOT names one", MarkingEdgeTest::sweepsAtOnce);
        test("all WHITE ones are gone", MarkingEdgeTest::whiteOnesAreGone);
        test("all others become WHITE, and it does not mark any more", MarkingEdgeTest::othersBecomeWhite);
        test("it SWEEPS: WORK: 1 for each THING that it had", MarkingEdgeTest::worksByThings);
        test("To END is to do STEPS till it has SWEPT", MarkingEdgeTest::endsBySteps);
        test("While it marks: as a FIELD of a BLACK THING names a WHITE one, that becomes GREY",
                MarkingEdgeTest::greysByFieldOfBlack);
        test("While it marks: as a FIELD of a THING that is not BLACK names a WHITE one, it stays so",
                MarkingEdgeTest::staysByFieldOfOthers);
        test("While it marks: as a ROOT names a WHITE one, that becomes GREY", MarkingEdgeTest::greysByRoot);
        test("names a WHITE one: one that is GREY or BLACK stays so", MarkingEdgeTest::staysByNaming);
        test("While it marks: not, if it does not", MarkingEdgeTest::staysIfItDoesNotMark);
        test("names a WHITE one from now on: that which it named stays as it is", MarkingEdgeTest::staysIfItIsLetGo);
        end("MarkingEdgeTest");
    }

    /** Marking has nothing to do: all that is reached is white. */
    private static void settle(Tessera x) {
        x.collect(MARKING);
        x.collect(MARKING);
        more(x, MARKS, 0);
    }

    /** Things of 1 to 4 words, in turn; the even ones are named by roots, the odd ones are swept. */
    private static Tessera withHoles() {
        Tessera x = begun(80);
        int[] fields = {0, 1, 0, 3, 0, 2, 0};
        for (int i = 0; i < fields.length; i++) {
            x.make(fields[i], i % 2 == 0 ? i / 2 : 5);
        }
        x.root(5, -1);
        settle(x);
        places(x, MARKING, 0, -1, 3, -1, 8, -1, 12);
        return x;
    }

    private static void placesInTheFirstHole() {
        Tessera x = withHoles();
        x.make(1, 4);
        due("at(2, 7)", x.at(MARKING, 7), 1);
        x.make(0, 5);
        due("at(2, 8)", x.at(MARKING, 8), 4);
        x.make(2, 5);
        due("at(2, 9)", x.at(MARKING, 9), 5);
        x.make(0, 5);
        due("at(2, 10)", x.at(MARKING, 10), 9);
    }

    private static void leavesSmallHoles() {
        Tessera x = withHoles();
        x.make(2, 5);
        due("at(2, 7)", x.at(MARKING, 7), 4);
        x.make(2, 5);
        due("at(2, 8)", x.at(MARKING, 8), 9);
        x.make(2, 5);
        due("at(2, 9)", x.at(MARKING, 9), 13);
        x.make(1, 5);
        due("at(2, 10)", x.at(MARKING, 10), 1);
    }

    private static void placesAtTheEnd() {
        Tessera x = begun(42);
        makeChain(x, 10, 3);
        told(x, MARKING, FREE, 2);
        int swept = x.told(MARKING, TIMES);
        settle(x);
        x.make(1, 1);
        due("at(2, 10)", x.at(MARKING, 10), 40);
        told(x, MARKING, TIMES, swept + 2);
        told(x, MARKING, FREE, 0);
    }

    private static void isWhiteAtFirst() {
        Tessera x = new Tessera();
        x.make(0, 0);
        x.make(3, 1);
        kept(x, COLOUR, 0, 0);
    }

    private static void doesTwoSteps() {
        Tessera x = new Tessera();
        makeChain(x, 5, 1);
        x.steps(1);
        kept(x, COLOUR, 2, 1, 0, 0, 0);
        int work = x.told(MARKING, WORK);
        x.make(3, 1);
        kept(x, COLOUR, 2, 2, 2, 1, 0, 2);
        told(x, MARKING, WORK, work + 4);
    }

    private static void doesOneStepIfItSweeps() {
        Tessera x = new Tessera();
        x.make(3, 0);
        due("steps(1)", x.steps(1), 0);
        x.make(1, 1);
        // A second step would find nothing grey, and sweep what became white by the first.
        more(x, MARKS, 0);
        places(x, MARKING, 0, 4);
        told(x, MARKING, TIMES, 1);
        told(x, MARKING, WORK, 4 + 1);
    }

    private static void sweepsByTheSecond() {
        Tessera x = new Tessera();
        x.make(3, 0);
        x.make(3, 1);
        due("steps(1)", x.steps(1), 1);
        x.make(1, 2);
        more(x, MARKS, 0);
        kept(x, COLOUR, 0, 0, 0);
        told(x, MARKING, TIMES, 1);
        told(x, MARKING, WORK, 8 + 2);
    }

    private static void doesNotBeginAgain() {
        Tessera x = begun(40);
        makeChain(x, 6, 3);
        settle(x);
        x.steps(6);
        more(x, MARKS, 1);
        // It sweeps ahead of placing, 16 words are free, and it begins by the next only.
        x.make(0, 1);
        more(x, MARKS, 0);
        kept(x, COLOUR, 0, 0, 0, 0, 0, 0, 0);
        x.make(0, 2);
        more(x, MARKS, 1);
        kept(x, COLOUR, 1, 0, 0, 0, 0, 0, 1, 2);
    }

    private static void begins() {
        Tessera x = begun(40);
        makeAt(x, 0, 5, 3);
        x.make(0, 1);
        more(x, MARKS, 0);
        // 19 words are free.
        x.make(0, 2);
        more(x, MARKS, 1);
        kept(x, COLOUR, 0, 0, 0, 0, 1, 1, 2);
        told(x, MARKING, WORK, 0);
        // Those that are not reached have their words, too.
        told(x, MARKING, LEFT, 4);
    }

    private static void doesNotBeginYet() {
        Tessera x = begun(40);
        makeAt(x, 0, 5, 3);
        // 20 words are free.
        x.make(3, 1);
        more(x, MARKS, 0);
        kept(x, COLOUR, 0, 0, 0, 0, 0, 0);
    }

    private static void greysRootByRoot() {
        Tessera x = new Tessera();
        int[] roots = {4, 2, 0, 5, 3, 1};
        for (int root : roots) {
            x.make(0, root);
        }
        int[] inOrder = {2, 5, 1, 4, 0, 3};
        for (int i = 0; i < 6; i++) {
            due("steps(1)", x.steps(1), 5 - i);
            for (int k = 0; k < 6; k++) {
                due("kept(" + inOrder[k] + ", 2)", x.kept(inOrder[k], COLOUR), k <= i ? 2 : 1);
            }
        }
    }

    private static void greysOnce() {
        Tessera x = new Tessera();
        x.make(0, 1);
        x.make(0, 3);
        x.root(4, 0);
        x.root(5, 1);
        due("steps(1)", x.steps(1), 1);
        kept(x, COLOUR, 2, 1);
        due("steps(1)", x.steps(1), 0);
        told(x, MARKING, WORK, 2);
    }

    /** 32 of 40 words are of a chain, and the others of 8 and 9, which roots 1 and 2 name; it does not mark. */
    private static Tessera withoutPlace() {
        Tessera x = begun(40);
        makeChain(x, 8, 3);
        x.make(3, 1);
        x.make(3, 2);
        settle(x);
        told(x, MARKING, FREE, 0);
        return x;
    }

    private static void ends() {
        Tessera x = withoutPlace();
        x.root(1, -1);
        x.root(2, -1);
        due("steps(1)", x.steps(1), 1);
        int work = x.told(MARKING, WORK);
        int swept = x.told(MARKING, TIMES);
        x.make(3, 1);
        // Two steps and five more, and then a sweep of ten things.
        told(x, MARKING, WORK, work + 7 * 4 + 10);
        told(x, MARKING, TIMES, swept + 1);
        more(x, MARKS, 0);
        places(x, MARKING, 0, 4, 8, 12, 16, 20, 24, 28, -1, -1, 32);
    }

    /** Chains of 2 words and of 3 words, in turn, the latter of which is swept: 24 words are free, in threes. */
    private static Tessera inPieces() {
        Tessera x = begun(40);
        for (int i = 0; i < 8; i++) {
            int thing = x.make(1, i == 0 ? 0 : 5);
            int other = x.make(2, i == 0 ? 1 : 4);
            if (i > 0) {
                x.set(thing - 2, 0, thing);
                x.set(other - 2, 0, other);
            }
        }
        x.root(1, -1);
        x.root(4, -1);
        x.root(5, -1);
        settle(x);
        for (int i = 0; i < 8; i++) {
            due("at(2, " + 2 * i + ")", x.at(MARKING, 2 * i), 5 * i);
        }
        told(x, MARKING, HAD, 8);
        told(x, MARKING, FREE, 3);
        told(x, MARKING, WORDS, 16);
        return x;
    }

    private static void beginsAndEnds() {
        Tessera x = inPieces();
        x.set(12, 0, -1);
        int work = x.told(MARKING, WORK);
        int swept = x.told(MARKING, TIMES);
        x.make(3, 1);
        // It did not mark, for 24 words are free: by one end, which marks 7 things and sweeps 8, there is a place.
        told(x, MARKING, WORK, work + 7 * 2 + 8);
        told(x, MARKING, TIMES, swept + 1);
        due("at(2, 14)", x.at(MARKING, 14), -1);
        due("at(2, 16)", x.at(MARKING, 16), 32);
        due("kept(16, 2)", x.kept(16, COLOUR), 0);
    }

    private static void doesNotEnd() {
        Tessera x = inPieces();
        int work = x.told(MARKING, WORK);
        x.make(2, 1);
        told(x, MARKING, WORK, work);
        due("at(2, 16)", x.at(MARKING, 16), 2);
        more(x, MARKS, 0);
    }

    private static void endsOnceMore() {
        Tessera x = withoutPlace();
        due("steps(1)", x.steps(1), 3);
        x.root(1, -1);
        x.root(2, -1);
        int work = x.told(MARKING, WORK);
        int swept = x.told(MARKING, TIMES);
        x.make(3, 1);
        // 8 and 9 are grey as they are let go, so that they stay by the first end, and are gone by the second.
        told(x, MARKING, WORK, work + 9 * 4 + 10 + 8 * 4 + 10);
        told(x, MARKING, PAUSE, 9 * 4 + 10 + 8 * 4 + 10);
        told(x, MARKING, TIMES, swept + 2);
        told(x, MARKING, BROKEN, 0);
        places(x, MARKING, 0, 4, 8, 12, 16, 20, 24, 28, -1, -1, 32);
        kept(x, COLOUR, 0, 0, 0, 0, 0, 0, 0, 0, -1, -1, 0);
    }

    private static void breaks() {
        Tessera x = withoutPlace();
        int work = x.told(MARKING, WORK);
        int swept = x.told(MARKING, TIMES);
        x.make(0, 3);
        told(x, MARKING, BROKEN, 1);
        told(x, MARKING, HAD, 0);
        told(x, MARKING, WORK, work + 2 * (40 + 10));
        told(x, MARKING, TIMES, swept + 2);
        more(x, MARKS, 0);
        due("at(2, 10)", x.at(MARKING, 10), -1);
    }

    private static void breaksInPieces() {
        Tessera x = inPieces();
        int work = x.told(MARKING, WORK);
        int swept = x.told(MARKING, TIMES);
        x.make(3, 1);
        told(x, MARKING, BROKEN, 1);
        told(x, MARKING, WORK, work + 2 * (16 + 8));
        told(x, MARKING, TIMES, swept + 2);
        due("at(2, 0)", x.at(MARKING, 0), -1);
    }

    private static void placesBlack() {
        Tessera x = new Tessera();
        makeChain(x, 4, 1);
        x.steps(1);
        x.make(1, 1);
        kept(x, COLOUR, 2, 2, 2, 1, 2);
        due("steps(1), as 4 is not grey", x.steps(1), 0);
    }

    private static void placesBlackAtOnce() {
        Tessera x = begun(40);
        makeAt(x, 0, 6, 3);
        kept(x, COLOUR, 0, 0, 0, 0, 0, 0);
        x.make(3, 1);
        kept(x, COLOUR, 0, 0, 0, 0, 0, 1, 2);
    }

    private static void placesWhite() {
        Tessera x = new Tessera();
        x.make(0, 0);
        x.steps(1);
        more(x, MARKS, 1);
        x.make(0, 1);
        more(x, MARKS, 0);
        kept(x, COLOUR, 0, 0);
        // It marks at the beginning of the call, and ends for there is no place.
        Tessera y = withoutPlace();
        y.root(1, -1);
        y.steps(1);
        y.make(3, 1);
        due("kept(10, 2)", y.kept(10, COLOUR), 0);
    }

    private static void takesTheLongestGrey() {
        Tessera x = new Tessera();
        x.make(1, 3);
        x.make(1, 2);
        x.make(1, 1);
        x.make(1, 0);
        x.set(3, 0, 2);
        x.set(0, 0, 1);
        x.root(2, -1);
        x.root(1, -1);
        // Grey are 3 and 0, by roots 0 and 3; then 2, by 3, is so for a shorter time than 0.
        due("steps(1)", x.steps(1), 2);
        kept(x, COLOUR, 1, 0, 1, 2);
        due("steps(1)", x.steps(1), 2);
        kept(x, COLOUR, 2, 1, 1, 2);
        // Grey by the barrier it is so for the shortest time of all.
        x.root(4, 1);
        due("steps(1)", x.steps(1), 1);
        kept(x, COLOUR, 2, 1, 2, 2);
        due("steps(1)", x.steps(1), 0);
        kept(x, COLOUR, 2, 2, 2, 2);
    }

    private static void greysFieldByField() {
        Tessera x = new Tessera();
        x.make(3, 0);
        for (int i = 1; i <= 3; i++) {
            x.make(0, i);
            x.set(0, 3 - i, i);
            x.root(i, -1);
        }
        due("steps(1)", x.steps(1), 3);
        kept(x, COLOUR, 2, 1, 1, 1);
        x.steps(1);
        kept(x, COLOUR, 2, 1, 1, 2);
        x.steps(1);
        kept(x, COLOUR, 2, 1, 2, 2);
    }

    private static void greysWhiteOnesOnly() {
        Tessera x = new Tessera();
        x.make(3, 0);
        x.make(2, 1);
        x.make(0, 2);
        x.set(0, 0, 0);
        x.set(0, 1, 1);
        x.set(0, 2, 1);
        x.set(1, 0, 0);
        x.set(1, 1, 2);
        x.root(1, -1);
        x.root(2, -1);
        // 0 names itself and 1 twice, and 1 names 0, which is black by then.
        due("steps(1)", x.steps(1), 1);
        kept(x, COLOUR, 2, 1, 0);
        due("steps(1)", x.steps(1), 1);
        kept(x, COLOUR, 2, 2, 1);
        due("steps(1)", x.steps(1), 0);
        due("steps(1)", x.steps(1), -1);
        told(x, MARKING, WORK, 4 + 3 + 1 + 3);
    }

    private static void worksByFields() {
        for (int fields = 0; fields <= 3; fields++) {
            Tessera x = new Tessera();
            x.make(fields, 0);
            x.steps(1);
            told(x, MARKING, WORK, fields + 1);
            told(x, MARKING, PAUSE, fields + 1);
        }
    }

    private static void sweepsInstead() {
        Tessera x = new Tessera();
        x.make(1, 0);
        due("steps(1)", x.steps(1), 0);
        told(x, MARKING, TIMES, 0);
        more(x, MARKS, 1);
        due("steps(1)", x.steps(1), -1);
        told(x, MARKING, TIMES, 1);
        more(x, MARKS, 0);
        told(x, MARKING, WORK, 2 + 1);
        // Nothing was grey, but by a root one is again at the beginning of the step.
        Tessera y = new Tessera();
        makeChain(y, 2, 1);
        y.make(0, 1);
        y.set(1, 0, 2);
        y.root(1, -1);
        y.steps(2);
        y.set(1, 0, -1);
        due("steps(1)", y.steps(1), 0);
        y.root(3, 1);
        due("steps(1)", y.steps(1), -1);
    }

    private static void sweepsAtOnce() {
        Tessera x = new Tessera();
        makeChain(x, 3, 1);
        x.root(0, -1);
        due("steps(1)", x.steps(1), -1);
        told(x, MARKING, HAD, 0);
        told(x, MARKING, WORK, 3);
        due("steps(1) of nothing", x.steps(1), -1);
        told(x, MARKING, WORK, 3);
        told(x, MARKING, TIMES, 2);
    }

    private static void whiteOnesAreGone() {
        Tessera x = new Tessera();
        makeChain(x, 3, 2);
        x.make(1, 1);
        x.set(3, 0, 3);
        x.root(1, -1);
        due("steps(1)", x.steps(1), 1);
        // Black 0 and grey 1 are let go, and stay; what white 2 keeps and the ring of 3 are gone.
        x.set(1, 0, -1);
        x.root(0, -1);
        due("collect(2)", x.collect(MARKING), 2);
        places(x, MARKING, 0, 3, -1, -1);
        told(x, MARKING, LEFT, 2);
        due("collect(2)", x.collect(MARKING), 2);
        told(x, MARKING, HAD, 0);
    }

    private static void othersBecomeWhite() {
        Tessera x = new Tessera();
        makeChain(x, 2, 1);
        x.steps(2);
        kept(x, COLOUR, 2, 2);
        more(x, MARKS, 1);
        x.steps(1);
        kept(x, COLOUR, 0, 0);
        more(x, MARKS, 0);
        // The next begins anew, with what roots name then.
        due("steps(1)", x.steps(1), 1);
        kept(x, COLOUR, 2, 1);
    }

    private static void worksByThings() {
        Tessera x = new Tessera();
        x.make(3, 0);
        x.make(3, 1);
        x.make(3, 2);
        x.root(1, -1);
        x.root(2, -1);
        x.steps(1);
        told(x, MARKING, WORK, 4);
        x.steps(1);
        told(x, MARKING, WORK, 4 + 3);
        told(x, MARKING, HAD, 1);
        x.collect(MARKING);
        told(x, MARKING, WORK, 4 + 3 + 4 + 1);
    }

    private static void endsBySteps() {
        Tessera x = begun(160);
        makeChain(x, 70, 0 + 1);
        settle(x);
        x.steps(20);
        int work = x.told(MARKING, WORK);
        int swept = x.told(MARKING, TIMES);
        due("collect(2)", x.collect(MARKING), 0);
        told(x, MARKING, WORK, work + 50 * 2 + 70);
        told(x, MARKING, TIMES, swept + 1);
        more(x, MARKS, 0);
        // Of 80 things, all grey but none black, each takes a step, and then it sweeps.
        Tessera y = begun(160);
        makeChain(y, 80, 1);
        settle(y);
        work = y.told(MARKING, WORK);
        due("collect(2)", y.collect(MARKING), 0);
        told(y, MARKING, WORK, work + 160 + 80);
        more(y, MARKS, 0);
    }

    /** Thing 0 is black, 1 and 2 are grey, and 3, which 2 names, is white. */
    private static Tessera withEachColour() {
        Tessera x = new Tessera();
        x.make(3, 0);
        x.make(3, 1);
        x.make(3, 2);
        x.make(3, 3);
        x.set(2, 0, 3);
        x.root(3, -1);
        due("steps(1)", x.steps(1), 2);
        kept(x, COLOUR, 2, 1, 1, 0);
        return x;
    }

    private static void greysByFieldOfBlack() {
        Tessera x = withEachColour();
        x.set(0, 2, 3);
        kept(x, COLOUR, 2, 1, 1, 1);
        int work = x.told(MARKING, WORK);
        // It is grey after 1 and 2, and is so though the field names it no more.
        x.set(0, 2, -1);
        x.set(2, 0, -1);
        due("steps(2)", x.steps(2), 1);
        kept(x, COLOUR, 2, 2, 2, 1);
        told(x, MARKING, WORK, work + 8);
        x.collect(MARKING);
        due("at(2, 3)", x.at(MARKING, 3), 12);
    }

    private static void staysByFieldOfOthers() {
        Tessera x = withEachColour();
        x.set(1, 0, 3);
        kept(x, COLOUR, 2, 1, 1, 0);
        x.set(3, 0, 3);
        kept(x, COLOUR, 2, 1, 1, 0);
        due("steps(1)", x.steps(1), 2);
        kept(x, COLOUR, 2, 2, 1, 1);
    }

    private static void greysByRoot() {
        Tessera x = withEachColour();
        x.root(0, 3);
        kept(x, COLOUR, 2, 1, 1, 1);
        due("steps(1)", x.steps(1), 2);
        kept(x, COLOUR, 2, 2, 1, 1);
        due("steps(1)", x.steps(1), 1);
        kept(x, COLOUR, 2, 2, 2, 1);
        // Thing 0 is white, named by grey 2 alone, and the only black one is 1.
        Tessera y = new Tessera();
        y.make(0, 2);
        y.make(0, 0);
        y.make(1, 1);
        y.set(2, 0, 0);
        y.root(2, -1);
        due("steps(1)", y.steps(1), 1);
        kept(y, COLOUR, 0, 2, 1);
        y.root(4, 0);
        kept(y, COLOUR, 1, 2, 1);
    }

    private static void staysByNaming() {
        Tessera x = withEachColour();
        x.set(0, 0, 0);
        x.set(0, 1, 1);
        x.root(4, 0);
        x.root(5, 2);
        kept(x, COLOUR, 2, 1, 1, 0);
        due("steps(1)", x.steps(1), 1);
        kept(x, COLOUR, 2, 2, 1, 0);
    }

    private static void staysIfItDoesNotMark() {
        Tessera x = new Tessera();
        makeChain(x, 3, 2);
        x.steps(4);
        more(x, MARKS, 0);
        x.set(0, 1, 2);
        x.root(3, 1);
        x.make(0, 4);
        kept(x, COLOUR, 0, 0, 0, 0);
        more(x, MARKS, 0);
    }

    private static void staysIfItIsLetGo() {
        Tessera x = withEachColour();
        x.root(1, -1);
        x.root(2, 3);
        kept(x, COLOUR, 2, 1, 1, 1);
        x.root(0, -1);
        kept(x, COLOUR, 2, 1, 1, 1);
        x.set(3, 0, 3);
        x.root(2, -1);
        kept(x, COLOUR, 2, 1, 1, 1);
    }
}
