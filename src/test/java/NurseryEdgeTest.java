/** The edges of store 1, sentence by sentence of 3 NURSERY. */
public final class NurseryEdgeTest extends Sheet {
    public static void main(String[] args) {
        test("the places below ROOM / 4", NurseryEdgeTest::hasANursery);
        test("the places from there on are OLD", NurseryEdgeTest::hasOldPlaces);
        test("Both are filled from their beginnings on", NurseryEdgeTest::fillsFromBeginnings);
        test("placed in the nursery, behind the last one", NurseryEdgeTest::placesBehindTheLast);
        test("if it does not fit: one that just fits does", NurseryEdgeTest::isNotSmallIfItFits);
        test("if it does not fit, there is a SMALL collecting", NurseryEdgeTest::isSmallIfItDoesNotFit);
        test("if it does not fit then: one that just fits does", NurseryEdgeTest::isNotGreatIfItFitsThen);
        test("if it does not fit then, a GREAT one", NurseryEdgeTest::isGreatIfItDoesNotFitThen);
        test("if it does not fit then: after one that was GREAT instead it fits", NurseryEdgeTest::isGreatOnce);
        test("if it does not fit then, it is BROKEN", NurseryEdgeTest::breaks);
        test("if it does not fit then, it is BROKEN: by one that was GREAT instead", NurseryEdgeTest::breaksAtOnce);
        test("has an AGE, 0 at first", NurseryEdgeTest::hasAge);
        test("REMEMBERED, if a FIELD of it names one in the nursery", NurseryEdgeTest::remembers);
        test("REMEMBERED: REACHED or not", NurseryEdgeTest::remembersUnreached);
        test("REMEMBERED: An OLD THING", NurseryEdgeTest::remembersOldOnesOnly);
        test("REMEMBERED: one in the nursery", NurseryEdgeTest::remembersForYoungOnesOnly);
        test("SMALL: WORDS of THINGS with AGE 1 just as many as there are FREE", NurseryEdgeTest::staysSmall);
        test("SMALL: more than there are FREE behind the last OLD one, it is a GREAT one",
                NurseryEdgeTest::turnsGreat);
        test("SMALL: WORDS of THINGS with AGE 1 (all that are there)", NurseryEdgeTest::turnsGreatByUnreached);
        test("SMALL: WORDS of THINGS with AGE 1, and of no others", NurseryEdgeTest::staysSmallByNewOnes);
        test("found, each once", NurseryEdgeTest::findsOnce);
        test("the THINGS in the nursery that ROOTS name, ROOT by ROOT", NurseryEdgeTest::findsRootByRoot);
        test("those that FIELDS of THINGS name that were REMEMBERED, by the numbers of these",
                NurseryEdgeTest::findsByNumbers);
        test("FIELD by FIELD", NurseryEdgeTest::findsFieldByField);
        test("that were REMEMBERED ahead of this", NurseryEdgeTest::findsByThoseRememberedAhead);
        test("that were REMEMBERED: by those that are not REACHED, too", NurseryEdgeTest::findsByUnreached);
        test("then, for each that is found, in that order, those in it that its FIELDS name",
                NurseryEdgeTest::findsOn);
        test("those with AGE 1 are put behind the last OLD one", NurseryEdgeTest::growsOld);
        test("the others are put from the beginning of the nursery on, and have AGE 1", NurseryEdgeTest::getsAge);
        test("One by one, as they are found", NurseryEdgeTest::putsAsFound);
        test("All others in the nursery are gone", NurseryEdgeTest::othersInTheNurseryAreGone);
        test("SMALL: WORK: 1 for each WORD that is put", NurseryEdgeTest::smallWorksByWords);
        test("GREAT: all OLD THINGS that are REACHED, by their places", NurseryEdgeTest::putsOldByPlaces);
        test("GREAT: then those in the nursery that are, by their places", NurseryEdgeTest::putsYoungByPlaces);
        test("GREAT: All others are gone", NurseryEdgeTest::othersAreGone);
        test("GREAT: WORK: 1 for each WORD that is put, moved or not", NurseryEdgeTest::greatWorksByWords);
        test("But if they would not fit: if they just fit, they do", NurseryEdgeTest::justFits);
        test("But if they would not fit, it is BROKEN", NurseryEdgeTest::wouldNotFit);
        test("and nothing of that is done (it was not GREAT by that)", NurseryEdgeTest::doesNothingOfThat);
        end("NurseryEdgeTest");
    }

    private static void hasANursery() {
        Tessera x = begun(43);
        makeAt(x, 0, 10, 0);
        due("at(1, 9)", x.at(NURSERY, 9), 9);
        told(x, NURSERY, FREE, 0);
        more(x, SMALLS, 0);
        x.make(0, 1);
        more(x, SMALLS, 1);
        due("at(1, 9)", x.at(NURSERY, 9), 0);
        due("at(1, 10)", x.at(NURSERY, 10), 1);
    }

    private static void hasOldPlaces() {
        Tessera x = begun(43);
        x.make(2, 0);
        x.collect(NURSERY);
        places(x, NURSERY, 10);
        kept(x, AGE, 2);
        x.begin(40);
        x.make(2, 0);
        x.small();
        x.small();
        places(x, NURSERY, 10);
        kept(x, AGE, 2);
    }

    private static void fillsFromBeginnings() {
        Tessera x = new Tessera();
        x.make(0, 0);
        x.make(0, 1);
        places(x, NURSERY, 0, 1);
        x.collect(NURSERY);
        places(x, NURSERY, 16, 17);
        x.make(0, 2);
        x.make(0, 3);
        places(x, NURSERY, 16, 17, 0, 1);
        x.collect(NURSERY);
        places(x, NURSERY, 16, 17, 18, 19);
    }

    private static void placesBehindTheLast() {
        Tessera x = new Tessera();
        x.make(3, 0);
        x.make(1, 1);
        x.root(0, -1);
        x.make(0, 2);
        places(x, NURSERY, 0, 4, 6);
        x.root(2, -1);
        x.make(0, 2);
        due("at(1, 3)", x.at(NURSERY, 3), 7);
        x.small();
        x.make(0, 3);
        places(x, NURSERY, -1, 0, -1, 2, 3);
    }

    private static void isNotSmallIfItFits() {
        Tessera x = begun(40);
        makeAt(x, 0, 2, 3);
        told(x, NURSERY, FREE, 2);
        x.make(1, 0);
        places(x, NURSERY, 0, 4, 8);
        told(x, NURSERY, FREE, 0);
        more(x, SMALLS, 0);
    }

    private static void isSmallIfItDoesNotFit() {
        Tessera x = begun(40);
        makeAt(x, 0, 2, 3);
        told(x, NURSERY, FREE, 2);
        x.make(2, 1);
        places(x, NURSERY, -1, 0, 4);
        more(x, SMALLS, 1);
        told(x, NURSERY, TIMES, 0);
        told(x, NURSERY, FREE, 3);
    }

    private static void isNotGreatIfItFitsThen() {
        Tessera x = begun(40);
        x.make(3, 0);
        x.make(3, 1);
        x.make(1, 2);
        x.root(1, -1);
        x.make(3, 3);
        places(x, NURSERY, 0, -1, 4, 6);
        told(x, NURSERY, FREE, 0);
        told(x, NURSERY, TIMES, 0);
        more(x, SMALLS, 1);
    }

    private static void isGreatIfItDoesNotFitThen() {
        Tessera x = begun(40);
        x.make(3, 0);
        x.make(2, 1);
        x.make(2, 2);
        x.root(2, -1);
        // By the small one 3 words are free, one less than there would have to be.
        x.make(3, 3);
        places(x, NURSERY, 10, 14, -1, 0);
        kept(x, AGE, 2, 2, -1, 0);
        told(x, NURSERY, TIMES, 1);
        more(x, SMALLS, 1);
        more(x, GROWN_OLD, 0);
        told(x, NURSERY, WORK, 14);
    }

    /** 28 of the 30 old words are of a chain, and all but its first two things are not reached. */
    private static Tessera withOldOnesLeft() {
        Tessera x = begun(40);
        makeChain(x, 7, 3);
        x.collect(NURSERY);
        x.set(1, 0, -1);
        told(x, NURSERY, WORDS, 28);
        told(x, NURSERY, LEFT, 5);
        return x;
    }

    private static void isGreatOnce() {
        Tessera x = withOldOnesLeft();
        x.make(3, 1);
        x.make(3, 2);
        x.small();
        int smalls = x.more(SMALLS);
        int greats = x.told(NURSERY, TIMES);
        x.make(3, 3);
        told(x, NURSERY, TIMES, greats + 1);
        more(x, SMALLS, smalls);
        places(x, NURSERY, 10, 14, -1, -1, -1, -1, -1, 18, 22, 0);
    }

    private static void breaks() {
        Tessera x = begun(40);
        makeChain(x, 7, 3);
        x.collect(NURSERY);
        x.make(3, 1);
        x.make(3, 2);
        int work = x.told(NURSERY, WORK);
        int greats = x.told(NURSERY, TIMES);
        int smalls = x.more(SMALLS);
        told(x, NURSERY, BROKEN, 0);
        // The small one puts 8 words, which leaves no place, and a great one would have to put 36 where 30 go.
        x.make(3, 3);
        told(x, NURSERY, BROKEN, 1);
        told(x, NURSERY, HAD, 0);
        told(x, NURSERY, WORK, work + 8);
        told(x, NURSERY, TIMES, greats);
        more(x, SMALLS, smalls + 1);
        due("at(1, 9)", x.at(NURSERY, 9), -1);
    }

    private static void breaksAtOnce() {
        Tessera x = begun(40);
        makeChain(x, 7, 3);
        x.collect(NURSERY);
        x.make(3, 1);
        x.make(3, 2);
        x.small();
        int work = x.told(NURSERY, WORK);
        int smalls = x.more(SMALLS);
        // The small one is a great one, which would not fit: the new thing is not placed, though the nursery is empty.
        x.make(0, 3);
        x.make(3, 4);
        told(x, NURSERY, BROKEN, 1);
        told(x, NURSERY, HAD, 0);
        told(x, NURSERY, WORK, work);
        more(x, SMALLS, smalls);
        due("at(1, 10)", x.at(NURSERY, 10), -1);
    }

    private static void hasAge() {
        Tessera x = new Tessera();
        x.make(1, 0);
        kept(x, AGE, 0);
        x.small();
        kept(x, AGE, 1);
        x.make(1, 1);
        kept(x, AGE, 1, 0);
        x.small();
        kept(x, AGE, 2, 1);
        x.begin(64);
        x.make(1, 0);
        kept(x, AGE, 0);
    }

    private static void remembers() {
        Tessera x = new Tessera();
        x.make(3, 0);
        x.collect(NURSERY);
        kept(x, REMEMBERED, 0);
        x.make(0, 1);
        kept(x, REMEMBERED, 0, 0);
        for (int field = 0; field < 3; field++) {
            x.set(0, field, 1);
            kept(x, REMEMBERED, 1, 0);
            x.set(0, field, -1);
            kept(x, REMEMBERED, 0, 0);
        }
        x.set(0, 2, 1);
        x.small();
        kept(x, REMEMBERED, 1, 0);
        x.small();
        kept(x, REMEMBERED, 0, 0);
    }

    private static void remembersUnreached() {
        Tessera x = new Tessera();
        x.make(1, 0);
        x.collect(NURSERY);
        x.make(0, 1);
        x.set(0, 0, 1);
        x.root(0, -1);
        kept(x, REMEMBERED, 1, 0);
        x.root(1, -1);
        kept(x, REMEMBERED, 1, 0);
        x.small();
        kept(x, REMEMBERED, 1, 0);
        x.collect(NURSERY);
        kept(x, REMEMBERED, -1, -1);
    }

    private static void remembersOldOnesOnly() {
        Tessera x = new Tessera();
        x.make(1, 0);
        x.make(1, 1);
        x.set(0, 0, 1);
        x.set(1, 0, 1);
        kept(x, REMEMBERED, 0, 0);
        x.small();
        kept(x, REMEMBERED, 0, 0);
    }

    private static void remembersForYoungOnesOnly() {
        Tessera x = new Tessera();
        x.make(2, 0);
        x.make(1, 1);
        x.set(0, 0, 1);
        x.set(0, 1, 0);
        x.collect(NURSERY);
        kept(x, REMEMBERED, 0, 0);
    }

    private static void staysSmall() {
        Tessera x = withOldOnesLeft();
        x.make(1, 1);
        x.small();
        int smalls = x.more(SMALLS);
        int greats = x.told(NURSERY, TIMES);
        // 2 words with age 1 go where 2 are free.
        due("small()", x.small(), 0);
        more(x, SMALLS, smalls + 1);
        told(x, NURSERY, TIMES, greats);
        due("at(1, 7)", x.at(NURSERY, 7), 38);
        due("at(1, 6), left", x.at(NURSERY, 6), 34);
    }

    private static void turnsGreat() {
        Tessera x = withOldOnesLeft();
        x.make(2, 1);
        x.small();
        int smalls = x.more(SMALLS);
        int grown = x.more(GROWN_OLD);
        int greats = x.told(NURSERY, TIMES);
        int work = x.told(NURSERY, WORK);
        // 3 words with age 1 are more than the 2 that are free.
        due("small()", x.small(), 5);
        more(x, SMALLS, smalls);
        more(x, GROWN_OLD, grown);
        told(x, NURSERY, TIMES, greats + 1);
        told(x, NURSERY, WORK, work + 11);
        places(x, NURSERY, 10, 14, -1, -1, -1, -1, -1, 18);
    }

    private static void turnsGreatByUnreached() {
        Tessera x = withOldOnesLeft();
        x.make(2, 1);
        x.small();
        x.root(1, -1);
        int smalls = x.more(SMALLS);
        due("small()", x.small(), 6);
        more(x, SMALLS, smalls);
        places(x, NURSERY, 10, 14, -1, -1, -1, -1, -1, -1);
    }

    private static void staysSmallByNewOnes() {
        Tessera x = withOldOnesLeft();
        x.make(3, 1);
        x.make(2, 2);
        x.make(0, 3);
        x.make(0, 4);
        int smalls = x.more(SMALLS);
        due("small()", x.small(), 0);
        more(x, SMALLS, smalls + 1);
        kept(x, AGE, 2, 2, 2, 2, 2, 2, 2, 1, 1, 1, 1);
    }

    private static void findsOnce() {
        Tessera x = new Tessera();
        x.make(1, 0);
        x.collect(NURSERY);
        x.make(2, 1);
        x.make(1, 2);
        x.root(3, 1);
        x.set(0, 0, 1);
        x.set(1, 0, 1);
        x.set(1, 1, 2);
        x.set(2, 0, 1);
        int work = x.told(NURSERY, WORK);
        due("small()", x.small(), 0);
        places(x, NURSERY, 16, 0, 3);
        told(x, NURSERY, HAD, 3);
        told(x, NURSERY, FREE, 11);
        told(x, NURSERY, WORK, work + 5);
        due("small()", x.small(), 0);
        places(x, NURSERY, 16, 18, 21);
        more(x, GROWN_OLD, 5);
    }

    private static void findsRootByRoot() {
        Tessera x = new Tessera();
        int[] roots = {4, 2, 0, 5, 3, 1};
        for (int root : roots) {
            x.make(0, root);
        }
        x.small();
        places(x, NURSERY, 4, 2, 0, 5, 3, 1);
    }

    private static void findsByNumbers() {
        Tessera x = new Tessera();
        x.make(1, 1);
        x.make(1, 0);
        x.small();
        x.small();
        // 1 is ahead of 0 by their places.
        places(x, NURSERY, 18, 16);
        x.make(0, 2);
        x.make(0, 3);
        x.make(0, 4);
        x.set(1, 0, 2);
        x.set(0, 0, 3);
        x.root(2, -1);
        x.root(3, -1);
        x.small();
        // By a root 4, and by the remembered 0 and 1, then, 3 and 2.
        places(x, NURSERY, 18, 16, 2, 1, 0);
    }

    private static void findsFieldByField() {
        Tessera x = new Tessera();
        x.make(3, 0);
        x.collect(NURSERY);
        for (int i = 1; i <= 3; i++) {
            x.make(0, i);
            x.set(0, 3 - i, i);
            x.root(i, -1);
        }
        x.small();
        places(x, NURSERY, 16, 2, 1, 0);
    }

    private static void findsByThoseRememberedAhead() {
        Tessera x = new Tessera();
        x.make(1, 1);
        x.make(1, 0);
        x.small();
        x.make(0, 2);
        x.make(0, 3);
        x.set(0, 0, 2);
        x.set(1, 0, 3);
        x.root(2, -1);
        x.root(3, -1);
        // 1 and 0 grow old by this one only: 3 is found by 1, and then 2 by 0.
        x.small();
        places(x, NURSERY, 18, 16, 1, 0);
        kept(x, REMEMBERED, 1, 1, 0, 0);
    }

    private static void findsByUnreached() {
        Tessera x = new Tessera();
        x.make(1, 0);
        x.collect(NURSERY);
        x.make(1, 1);
        x.make(0, 2);
        x.set(0, 0, 1);
        x.set(1, 0, 2);
        dropAllRoots(x);
        due("small()", x.small(), 0);
        places(x, NURSERY, 16, 0, 2);
        told(x, NURSERY, LEFT, 3);
        due("small()", x.small(), 0);
        places(x, NURSERY, 16, 18, 20);
        due("collect(1)", x.collect(NURSERY), 3);
    }

    private static void findsOn() {
        Tessera x = new Tessera();
        x.make(1, 0);
        x.collect(NURSERY);
        makeAt(x, 1, 1, 2);
        makeAt(x, 2, 1, 1);
        makeAt(x, 3, 1, 0);
        makeAt(x, 4, 1, 1);
        makeAt(x, 5, 1, 0);
        x.set(0, 0, 4);
        x.set(4, 0, 3);
        x.set(1, 0, 5);
        x.set(1, 1, 2);
        x.root(3, -1);
        x.root(4, -1);
        x.root(5, -1);
        x.make(0, 3);
        x.set(2, 0, 6);
        x.root(3, -1);
        x.root(2, -1);
        x.make(0, 3);
        // By roots 1 and 7, by the remembered 0 then 4; by 1 then 5 and 2, by 4 then 3, and by 2 then 6.
        due("small()", x.small(), 0);
        places(x, NURSERY, 16, 0, 7, 9, 4, 6, 10, 3);
    }

    private static void growsOld() {
        Tessera x = new Tessera();
        x.make(3, 0);
        x.collect(NURSERY);
        x.make(1, 1);
        x.small();
        x.make(0, 2);
        more(x, GROWN_OLD, 0);
        x.small();
        places(x, NURSERY, 16, 20, 0);
        kept(x, AGE, 2, 2, 1);
        more(x, GROWN_OLD, 2);
        x.root(0, -1);
        x.small();
        // 0 is not reached, but had still: the next is put behind it and 1.
        places(x, NURSERY, 16, 20, 22);
        more(x, GROWN_OLD, 3);
    }

    private static void getsAge() {
        Tessera x = new Tessera();
        x.make(3, 0);
        x.make(1, 1);
        x.make(2, 2);
        x.root(0, -1);
        x.small();
        places(x, NURSERY, -1, 0, 2);
        kept(x, AGE, -1, 1, 1);
        told(x, NURSERY, FREE, 11);
        more(x, GROWN_OLD, 0);
    }

    private static void putsAsFound() {
        Tessera x = new Tessera();
        x.make(0, 3);
        x.make(0, 1);
        x.small();
        x.make(0, 2);
        x.make(0, 0);
        x.small();
        // Found are 3, 1, 2 and 0; 1 and 0 have age 1.
        places(x, NURSERY, 17, 16, 1, 0);
    }

    private static void othersInTheNurseryAreGone() {
        Tessera x = new Tessera();
        x.make(1, 0);
        x.collect(NURSERY);
        x.make(1, 1);
        x.small();
        x.make(1, 2);
        x.make(1, 3);
        x.set(1, 0, 1);
        x.set(2, 0, 2);
        x.set(3, 0, 0);
        dropAllRoots(x);
        // Those with age 1 and 0 are gone, rings and those that name old ones; the old one is not.
        due("small()", x.small(), 3);
        places(x, NURSERY, 16, -1, -1, -1);
        told(x, NURSERY, FREE, 16);
        due("small() of an empty nursery", x.small(), 0);
        more(x, SMALLS, 3);
        told(x, NURSERY, HAD, 1);
    }

    private static void smallWorksByWords() {
        Tessera x = new Tessera();
        x.make(3, 0);
        x.make(1, 1);
        x.make(2, 2);
        told(x, NURSERY, WORK, 0);
        x.root(2, -1);
        x.small();
        told(x, NURSERY, WORK, 6);
        x.make(0, 2);
        x.small();
        told(x, NURSERY, WORK, 13);
        x.small();
        told(x, NURSERY, WORK, 14);
        x.small();
        told(x, NURSERY, WORK, 14);
        told(x, NURSERY, PAUSE, 7);
    }

    private static void putsOldByPlaces() {
        Tessera x = new Tessera();
        x.make(0, 2);
        x.make(1, 0);
        x.make(2, 1);
        x.small();
        x.small();
        places(x, NURSERY, 21, 16, 18);
        x.root(0, -1);
        due("collect(1)", x.collect(NURSERY), 1);
        places(x, NURSERY, 19, -1, 16);
        x.make(0, 0);
        x.collect(NURSERY);
        places(x, NURSERY, 19, -1, 16, 20);
    }

    private static void putsYoungByPlaces() {
        Tessera x = new Tessera();
        x.make(3, 5);
        x.collect(NURSERY);
        x.make(0, 2);
        x.make(1, 0);
        x.make(2, 1);
        x.small();
        // Of age 1 are 2, 3 and 1, in this order, and 4 is new.
        x.make(0, 3);
        x.root(4, 4);
        places(x, NURSERY, 16, 5, 0, 2, 6);
        x.root(0, 4);
        due("collect(1)", x.collect(NURSERY), 1);
        places(x, NURSERY, 16, 23, -1, 20, 24);
        kept(x, AGE, 2, 2, -1, 2, 2);
        told(x, NURSERY, FREE, 16);
    }

    private static void othersAreGone() {
        Tessera x = new Tessera();
        x.make(1, 0);
        x.make(1, 1);
        x.collect(NURSERY);
        x.make(1, 2);
        x.make(1, 3);
        x.set(0, 0, 2);
        x.set(2, 0, 0);
        x.root(0, -1);
        x.root(2, -1);
        // A ring of an old and a new one is gone, though it is remembered.
        kept(x, REMEMBERED, 1, 0, 0, 0);
        due("collect(1)", x.collect(NURSERY), 2);
        places(x, NURSERY, -1, 16, -1, 18);
        dropAllRoots(x);
        due("collect(1)", x.collect(NURSERY), 2);
        told(x, NURSERY, HAD, 0);
        x.make(0, 0);
        x.collect(NURSERY);
        due("at(1, 4)", x.at(NURSERY, 4), 16);
    }

    private static void greatWorksByWords() {
        Tessera x = new Tessera();
        x.make(3, 0);
        x.make(1, 1);
        x.collect(NURSERY);
        told(x, NURSERY, WORK, 6);
        x.collect(NURSERY);
        told(x, NURSERY, WORK, 12);
        x.make(0, 2);
        x.root(0, -1);
        x.collect(NURSERY);
        told(x, NURSERY, WORK, 15);
        dropAllRoots(x);
        x.collect(NURSERY);
        told(x, NURSERY, WORK, 15);
        told(x, NURSERY, TIMES, 4);
    }

    private static void justFits() {
        Tessera x = begun(40);
        makeChain(x, 7, 3);
        x.make(1, 1);
        x.make(0, 2);
        x.root(2, -1);
        // 30 words are reached, and there are 30 from 10 on.
        due("collect(1)", x.collect(NURSERY), 1);
        told(x, NURSERY, BROKEN, 0);
        told(x, NURSERY, WORDS, 30);
        due("at(1, 7)", x.at(NURSERY, 7), 38);
    }

    private static void wouldNotFit() {
        Tessera x = begun(40);
        makeChain(x, 7, 3);
        x.make(1, 1);
        x.collect(NURSERY);
        told(x, NURSERY, BROKEN, 0);
        x.make(0, 2);
        due("collect(1)", x.collect(NURSERY), 0);
        told(x, NURSERY, BROKEN, 1);
        told(x, NURSERY, HAD, 0);
    }

    private static void doesNothingOfThat() {
        Tessera x = begun(40);
        makeChain(x, 7, 3);
        x.make(1, 1);
        x.collect(NURSERY);
        x.make(0, 2);
        int work = x.told(NURSERY, WORK);
        int pause = x.told(NURSERY, PAUSE);
        int greats = x.told(NURSERY, TIMES);
        x.collect(NURSERY);
        told(x, NURSERY, BROKEN, 1);
        told(x, NURSERY, WORK, work);
        told(x, NURSERY, PAUSE, pause);
        told(x, NURSERY, TIMES, greats);
    }
}
