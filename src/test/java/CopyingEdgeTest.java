/** The edges of store 0, sentence by sentence of 2 COPYING. */
public final class CopyingEdgeTest extends Sheet {
    public static void main(String[] args) {
        test("two halves, of ROOM / 2 WORDS each, from 0 and from ROOM / 2 on", CopyingEdgeTest::hasTwoHalves);
        test("at first the first one is in use, from its beginning on", CopyingEdgeTest::beginsInTheFirst);
        test("placed behind the last one in the half that is in use", CopyingEdgeTest::placesBehindTheLast);
        test("if it does not fit: one that just fits does", CopyingEdgeTest::doesNotCollectIfItFits);
        test("if it does not fit, it COLLECTS first", CopyingEdgeTest::collectsIfItDoesNotFit);
        test("if it does not fit then: one that just fits does", CopyingEdgeTest::fitsThen);
        test("if it does not fit then, it is BROKEN", CopyingEdgeTest::breaks);
        test("if it does not fit then, it is BROKEN: what it did is WORK", CopyingEdgeTest::breaksWithWork);
        test("To COLLECT: the other half is in use, from its beginning on", CopyingEdgeTest::usesTheOther);
        test("The THINGS that ROOTS name, ROOT by ROOT, are put there", CopyingEdgeTest::putsRootByRoot);
        test("The THINGS that ROOTS name, each once", CopyingEdgeTest::putsNamedByRootsOnce);
        test("for each THING there, from its beginning on, those that its FIELDS name, in order",
                CopyingEdgeTest::putsFieldByField);
        test("those that its FIELDS name, each once", CopyingEdgeTest::putsNamedByFieldsOnce);
        test("All others are gone", CopyingEdgeTest::othersAreGone);
        test("All others are gone: if nothing is REACHED, all", CopyingEdgeTest::allAreGone);
        test("WORK: 1 for each WORD that is put there", CopyingEdgeTest::worksByWords);
        end("CopyingEdgeTest");
    }

    private static void hasTwoHalves() {
        Tessera x = begun(41);
        makeAt(x, 0, 20, 0);
        due("at(0, 19)", x.at(COPYING, 19), 19);
        told(x, COPYING, TIMES, 0);
        x.make(0, 1);
        due("at(0, 19)", x.at(COPYING, 19), 20);
        due("at(0, 20)", x.at(COPYING, 20), 21);
        makeAt(x, 0, 18, 0);
        due("at(0, 38)", x.at(COPYING, 38), 39);
        told(x, COPYING, FREE, 0);
        told(x, COPYING, TIMES, 1);
    }

    private static void beginsInTheFirst() {
        Tessera x = new Tessera();
        x.make(0, 0);
        places(x, COPYING, 0);
        x.collect(COPYING);
        x.begin(64);
        x.make(0, 0);
        places(x, COPYING, 0);
    }

    private static void placesBehindTheLast() {
        Tessera x = new Tessera();
        x.make(3, 0);
        x.make(1, 1);
        x.root(0, -1);
        x.make(2, 2);
        places(x, COPYING, 0, 4, 6);
        x.collect(COPYING);
        x.make(0, 3);
        places(x, COPYING, -1, 32, 34, 37);
        x.root(3, -1);
        x.make(0, 4);
        due("at(0, 4)", x.at(COPYING, 4), 38);
    }

    private static void doesNotCollectIfItFits() {
        Tessera x = begun(40);
        makeAt(x, 0, 4, 3);
        x.make(0, 1);
        told(x, COPYING, FREE, 3);
        x.make(2, 2);
        told(x, COPYING, TIMES, 0);
        told(x, COPYING, FREE, 0);
        places(x, COPYING, 0, 4, 8, 12, 16, 17);
    }

    private static void collectsIfItDoesNotFit() {
        Tessera x = begun(40);
        makeAt(x, 0, 4, 3);
        x.make(0, 1);
        told(x, COPYING, FREE, 3);
        x.make(3, 2);
        told(x, COPYING, TIMES, 1);
        told(x, COPYING, FREE, 11);
        places(x, COPYING, -1, -1, -1, 20, 24, 25);
        // By one collecting only, and none for the next.
        x.make(3, 2);
        told(x, COPYING, TIMES, 1);
        due("at(0, 6)", x.at(COPYING, 6), 29);
    }

    private static void fitsThen() {
        Tessera x = begun(40);
        makeChain(x, 4, 3);
        x.make(3, 1);
        x.root(1, -1);
        told(x, COPYING, FREE, 0);
        x.make(3, 1);
        told(x, COPYING, BROKEN, 0);
        told(x, COPYING, TIMES, 1);
        told(x, COPYING, FREE, 0);
        places(x, COPYING, 20, 24, 28, 32, -1, 36);
    }

    private static void breaks() {
        Tessera x = begun(40);
        makeChain(x, 4, 3);
        x.make(0, 1);
        told(x, COPYING, FREE, 3);
        x.make(3, 2);
        told(x, COPYING, BROKEN, 1);
        places(x, COPYING, -1, -1, -1, -1, -1, -1);
        told(x, COPYING, HAD, 0);
        // A full half, and one word more.
        Tessera y = begun(40);
        makeChain(y, 5, 3);
        told(y, COPYING, BROKEN, 0);
        y.make(0, 1);
        told(y, COPYING, BROKEN, 1);
    }

    private static void breaksWithWork() {
        Tessera x = begun(40);
        makeChain(x, 4, 3);
        x.make(0, 1);
        x.make(3, 2);
        told(x, COPYING, WORK, 17);
        told(x, COPYING, PAUSE, 17);
        told(x, COPYING, TIMES, 1);
        told(x, COPYING, FREE, 0);
    }

    private static void usesTheOther() {
        Tessera x = begun(40);
        x.make(1, 0);
        int[] starts = {20, 0, 20};
        for (int start : starts) {
            x.collect(COPYING);
            places(x, COPYING, start);
            told(x, COPYING, FREE, 18);
        }
        x.make(0, 1);
        places(x, COPYING, 20, 22);
    }

    private static void putsRootByRoot() {
        Tessera x = new Tessera();
        int[] roots = {4, 2, 0, 5, 3, 1};
        for (int root : roots) {
            x.make(0, root);
        }
        x.collect(COPYING);
        places(x, COPYING, 36, 34, 32, 37, 35, 33);
    }

    private static void putsNamedByRootsOnce() {
        Tessera x = new Tessera();
        x.make(1, 3);
        x.make(2, 1);
        x.root(0, 0);
        x.root(5, 1);
        due("collect(0)", x.collect(COPYING), 0);
        places(x, COPYING, 32, 34);
        told(x, COPYING, HAD, 2);
        told(x, COPYING, FREE, 27);
        told(x, COPYING, WORK, 5);
    }

    private static void putsFieldByField() {
        Tessera x = new Tessera();
        x.make(2, 1);
        x.make(2, 0);
        x.make(0, 2);
        x.make(0, 3);
        x.make(0, 4);
        x.make(1, 5);
        x.set(0, 0, 3);
        x.set(0, 1, 4);
        x.set(1, 0, 5);
        x.set(1, 1, 2);
        x.make(0, 2);
        x.set(5, 0, 6);
        for (int root = 2; root < 6; root++) {
            x.root(root, -1);
        }
        x.collect(COPYING);
        // 1 and 0 by roots, 5 and 2 by the fields of 1, 3 and 4 by those of 0, and 6 by that of 5.
        places(x, COPYING, 35, 32, 40, 41, 42, 38, 43);
    }

    private static void putsNamedByFieldsOnce() {
        Tessera x = new Tessera();
        x.make(3, 0);
        x.make(2, 1);
        x.set(0, 0, 0);
        x.set(0, 1, 1);
        x.set(0, 2, 1);
        x.set(1, 0, 0);
        x.root(1, -1);
        due("collect(0)", x.collect(COPYING), 0);
        places(x, COPYING, 32, 36);
        told(x, COPYING, HAD, 2);
        told(x, COPYING, FREE, 25);
        told(x, COPYING, WORK, 7);
    }

    private static void othersAreGone() {
        Tessera x = new Tessera();
        makeChain(x, 3, 1);
        x.make(1, 1);
        x.make(1, 2);
        x.set(3, 0, 0);
        x.set(4, 0, 4);
        x.root(1, -1);
        x.root(2, -1);
        x.set(1, 0, -1);
        // Gone are 2, which one names that is not reached any more, 3, which names one that is, and the ring of 4.
        due("collect(0)", x.collect(COPYING), 3);
        places(x, COPYING, 32, 34, -1, -1, -1);
        told(x, COPYING, LEFT, 0);
    }

    private static void allAreGone() {
        Tessera x = new Tessera();
        makeChain(x, 3, 1);
        x.root(0, -1);
        due("collect(0)", x.collect(COPYING), 3);
        told(x, COPYING, WORK, 0);
        told(x, COPYING, TIMES, 1);
        told(x, COPYING, FREE, 32);
        due("collect(0) of nothing", x.collect(COPYING), 0);
        told(x, COPYING, TIMES, 2);
        x.collect(COPYING);
        x.make(0, 0);
        due("at(0, 3)", x.at(COPYING, 3), 32);
    }

    private static void worksByWords() {
        Tessera x = new Tessera();
        x.make(3, 0);
        x.make(0, 1);
        told(x, COPYING, WORK, 0);
        x.collect(COPYING);
        told(x, COPYING, WORK, 5);
        x.root(0, -1);
        x.collect(COPYING);
        told(x, COPYING, WORK, 6);
    }
}
