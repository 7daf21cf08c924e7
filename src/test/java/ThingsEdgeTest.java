/** The edges of things, fields, roots and of all stores alike: the head of the terms, and promises 1 to 8. */
public final class ThingsEdgeTest extends Sheet {
    public static void main(String[] args) {
        test("An object is used for at most 512 calls", ThingsEdgeTest::lastsForAllCalls);
        test("/ is cut towards 0: ROOM / 2 of COPYING", ThingsEdgeTest::cutsHalves);
        test("/ is cut towards 0: ROOM / 4 of NURSERY", ThingsEdgeTest::cutsQuarters);
        test("/ is cut towards 0: ROOM / 2 of MARKING", ThingsEdgeTest::cutsTheBound);
        test("At most 80 ever, numbered from 0", ThingsEdgeTest::numbersFromZero);
        test("At most 80 ever: those that are gone count, too", ThingsEdgeTest::countsThoseGone);
        test("each with 0 to 3 FIELDS", ThingsEdgeTest::hasFields);
        test("each of which names a THING or none (at first)", ThingsEdgeTest::namesNoneAtFirst);
        test("and 1 WORD more than FIELDS", ThingsEdgeTest::hasOneWordMore);
        test("ROOTS: 0 to 5", ThingsEdgeTest::hasSixRoots);
        test("each names a THING or none (at first)", ThingsEdgeTest::rootsNameNoneAtFirst);
        test("REACHED, if a ROOT names it", ThingsEdgeTest::isReachedByRoot);
        test("REACHED, if a FIELD of one that is REACHED names it", ThingsEdgeTest::isReachedByField);
        test("not REACHED, if it is named by itself, or by others that are not", ThingsEdgeTest::isNotReachedByRing);
        test("Only REACHED ones can be told of in set() and root(): one that a FIELD alone reaches can",
                ThingsEdgeTest::fieldIsEnoughToBeToldOf);
        test("40 to 160; 64 at first", ThingsEdgeTest::hasRoom);
        test("places from 0 on", ThingsEdgeTest::placesFromZero);
        test("HAS a THING at a place, or not (any more)", ThingsEdgeTest::hasItNotAnyMore);
        test("All that is told of what a STORE does is for each by itself", ThingsEdgeTest::eachByItself);
        test("All that is told of what a STORE does is for each by itself: BROKEN, too",
                ThingsEdgeTest::breaksByItself);
        test("BROKEN: it HAS nothing any more", ThingsEdgeTest::brokenHasNothing);
        test("BROKEN: and does nothing (COPYING)", ThingsEdgeTest::brokenCopyingDoesNothing);
        test("BROKEN: and does nothing (NURSERY)", ThingsEdgeTest::brokenNurseryDoesNothing);
        test("BROKEN: and does nothing (MARKING)", ThingsEdgeTest::brokenMarkingDoesNothing);
        test("BROKEN: and does nothing (COUNTING)", ThingsEdgeTest::brokenCountingDoesNothing);
        test("each STORE places it, and then a ROOT names it (COPYING)", ThingsEdgeTest::copyingPlacesFirst);
        test("each STORE places it, and then a ROOT names it (NURSERY)", ThingsEdgeTest::nurseryPlacesFirst);
        test("each STORE places it, and then a ROOT names it (MARKING)", ThingsEdgeTest::markingPlacesFirst);
        test("each STORE places it, and then a ROOT names it (COUNTING)", ThingsEdgeTest::countingPlacesFirst);
        test("WORK is what a STORE has done", ThingsEdgeTest::workIsSummed);
        test("from the beginning of a call to its end is a PAUSE: of collect()", ThingsEdgeTest::pauseOfCollect);
        test("from the beginning of a call to its end is a PAUSE: of make()", ThingsEdgeTest::pauseOfMake);
        test("from the beginning of a call to its end is a PAUSE: of set()", ThingsEdgeTest::pauseOfSet);
        test("from the beginning of a call to its end is a PAUSE: of root()", ThingsEdgeTest::pauseOfRoot);
        test("from the beginning of a call to its end is a PAUSE: of small()", ThingsEdgeTest::pauseOfSmall);
        test("from the beginning of a call to its end is a PAUSE: of steps()", ThingsEdgeTest::pauseOfSteps);
        test("FREE are WORDS that no THING has", ThingsEdgeTest::unreachedAreNotFree);
        test("Promise 1: without THINGS, with a ROOM of 64", ThingsEdgeTest::newObject);
        test("Promise 2: Begins anew, with nothing (no WORK, too)", ThingsEdgeTest::beginsWithNothing);
        test("Promise 2: Begins anew, if STORES are BROKEN", ThingsEdgeTest::beginsAfterBroken);
        test("Promise 2: Returns the one before", ThingsEdgeTest::beginReturnsTheOneBefore);
        test("Promise 3: the ROOT that names it then", ThingsEdgeTest::makeTakesTheRoot);
        test("Promise 3: Returns its number", ThingsEdgeTest::makeReturnsNumber);
        test("Promise 4: the FIELD, from 0", ThingsEdgeTest::setsEachField);
        test("Promise 4: -1 for none", ThingsEdgeTest::setsNone);
        test("Promise 4: Returns that which it named", ThingsEdgeTest::setReturnsTheOneBefore);
        test("Promise 4: another THING may be the same THING", ThingsEdgeTest::setsItself);
        test("Promise 5: -1 for none", ThingsEdgeTest::rootNamesNone);
        test("Promise 5: Returns that which it named", ThingsEdgeTest::rootReturnsTheOneBefore);
        test("Promise 6: how many THINGS were made", ThingsEdgeTest::thingsWereMade);
        test("Promise 7: a THING, REACHED or not", ThingsEdgeTest::ofThingOfUnreached);
        test("Promise 7: over how many FIELDS at the least", ThingsEdgeTest::distanceIsTheLeast);
        test("Promise 7: 0, if a ROOT names it", ThingsEdgeTest::distanceOfRoots);
        test("Promise 7: -1, if it is not REACHED", ThingsEdgeTest::distanceOfUnreached);
        test("Promise 8: (as it was last)", ThingsEdgeTest::namedAsItWasLast);
        test("Promise 8: -1 for none", ThingsEdgeTest::namedNone);
        end("ThingsEdgeTest");
    }

    private static void lastsForAllCalls() {
        Tessera x = new Tessera();
        for (int call = 1; call < 512; call++) {
            if (x.things() < 80) {
                x.make(call % 4, call % 6);
            } else if (call == 400) {
                x.begin(64);
            } else {
                x.collect(call % 4);
            }
        }
        due("the 512th call, things()", x.things(), 80);
    }

    private static void cutsHalves() {
        Tessera x = begun(43);
        makeAt(x, 0, 21, 0);
        told(x, COPYING, TIMES, 0);
        told(x, COPYING, FREE, 0);
        x.make(0, 1);
        told(x, COPYING, TIMES, 1);
        due("at(0, 20)", x.at(COPYING, 20), 21);
        due("at(0, 21)", x.at(COPYING, 21), 22);
        told(x, COPYING, FREE, 19);
    }

    private static void cutsQuarters() {
        Tessera x = begun(43);
        makeAt(x, 0, 10, 0);
        more(x, SMALLS, 0);
        told(x, NURSERY, FREE, 0);
        x.collect(NURSERY);
        due("at(1, 9)", x.at(NURSERY, 9), 10);
        // OLD has the 33 words from 10 on: a chain of 32 and one more, but not two.
        makeChain(x, 8, 3);
        x.collect(NURSERY);
        told(x, NURSERY, WORDS, 32);
        told(x, NURSERY, BROKEN, 0);
        x.make(0, 2);
        x.collect(NURSERY);
        told(x, NURSERY, WORDS, 33);
        told(x, NURSERY, BROKEN, 0);
        x.make(0, 3);
        x.collect(NURSERY);
        told(x, NURSERY, BROKEN, 1);
    }

    private static void cutsTheBound() {
        Tessera x = begun(43);
        makeAt(x, 0, 5, 3);
        x.make(1, 0);
        // 21 words are free, which is not less than 43 / 2; by the next it will be 20.
        x.make(0, 0);
        more(x, MARKS, 0);
        x.make(0, 0);
        more(x, MARKS, 1);
    }

    private static void numbersFromZero() {
        Tessera x = begun(160);
        for (int i = 0; i < 80; i++) {
            due("make", x.make(0, i % 6), i);
        }
        due("things()", x.things(), 80);
        due("the 81st", answer(x, o -> o.make(0, 0)).equals(IllegalStateException.class.getName()) ? 1 : 0, 1);
        x.begin(160);
        due("make after begin", x.make(0, 0), 0);
    }

    private static void countsThoseGone() {
        Tessera x = new Tessera();
        makeAt(x, 0, 79, 0);
        dropAllRoots(x);
        for (int store : ALL) {
            x.collect(store);
            told(x, store, HAD, 0);
        }
        due("make of the 80th", x.make(0, 0), 79);
        due("the 81st", answer(x, o -> o.make(0, 0)).equals(IllegalStateException.class.getName()) ? 1 : 0, 1);
    }

    private static void hasFields() {
        Tessera x = new Tessera();
        for (int fields = 0; fields <= 3; fields++) {
            x.make(fields, fields);
            due("ofThing", x.ofThing(fields, 0), fields);
            for (int field = 0; field < fields; field++) {
                due("set", x.set(fields, field, 0), -1);
            }
        }
    }

    private static void namesNoneAtFirst() {
        Tessera x = new Tessera();
        for (int i = 0; i < 2; i++) {
            x.make(3, 0);
            for (int field = 0; field < 3; field++) {
                due("named(0, " + field + ")", x.named(0, field), -1);
                due("set(0, " + field + ", 0)", x.set(0, field, 0), -1);
            }
            x.begin(64);
        }
    }

    private static void hasOneWordMore() {
        for (int fields = 0; fields <= 3; fields++) {
            Tessera x = new Tessera();
            x.make(fields, 0);
            x.make(0, 1);
            for (int store : ALL) {
                told(x, store, WORDS, fields + 2);
                due("at", x.at(store, 1), fields + 1);
            }
        }
    }

    private static void hasSixRoots() {
        Tessera x = new Tessera();
        for (int root = 0; root < 6; root++) {
            x.make(0, root);
        }
        for (int root = 0; root < 6; root++) {
            due("ofThing(" + root + ", 1)", x.ofThing(root, 1), 1);
            due("wouldLose(" + root + ")", x.wouldLose(root), 1);
            due("root(" + root + ", -1)", x.root(root, -1), root);
        }
    }

    private static void rootsNameNoneAtFirst() {
        Tessera x = new Tessera();
        for (int i = 0; i < 2; i++) {
            for (int root = 0; root < 6; root++) {
                due("root(" + root + ", -1)", x.root(root, -1), -1);
            }
            for (int root = 0; root < 6; root++) {
                x.make(0, root);
            }
            x.begin(64);
        }
    }

    private static void isReachedByRoot() {
        Tessera x = new Tessera();
        x.make(0, 2);
        due("ofThing(0, 1)", x.ofThing(0, 1), 1);
        x.root(3, 0);
        x.root(2, -1);
        due("ofThing(0, 1), by one root still", x.ofThing(0, 1), 1);
        x.root(3, -1);
        due("ofThing(0, 1)", x.ofThing(0, 1), 0);
    }

    private static void isReachedByField() {
        Tessera x = begun(160);
        makeChain(x, 30, 1);
        due("ofThing(29, 1)", x.ofThing(29, 1), 1);
        x.set(14, 0, -1);
        due("ofThing(14, 1)", x.ofThing(14, 1), 1);
        due("ofThing(15, 1)", x.ofThing(15, 1), 0);
        due("ofThing(29, 1), named by one that is not reached", x.ofThing(29, 1), 0);
    }

    private static void isNotReachedByRing() {
        Tessera x = new Tessera();
        x.make(1, 0);
        x.set(0, 0, 0);
        x.make(1, 1);
        x.make(1, 2);
        x.set(1, 0, 2);
        x.set(2, 0, 1);
        x.root(2, -1);
        due("ofThing(2, 1)", x.ofThing(2, 1), 1);
        x.root(0, -1);
        x.root(1, -1);
        for (int thing = 0; thing < 3; thing++) {
            due("ofThing(" + thing + ", 1)", x.ofThing(thing, 1), 0);
        }
    }

    private static void fieldIsEnoughToBeToldOf() {
        Tessera x = new Tessera();
        makeChain(x, 3, 2);
        due("set(2, 0, 2)", x.set(2, 0, 2), -1);
        due("set(0, 1, 2)", x.set(0, 1, 2), -1);
        due("root(4, 2)", x.root(4, 2), -1);
        due("root(4, 1)", x.root(4, 1), 2);
    }

    private static void hasRoom() {
        Tessera x = new Tessera();
        int[] rooms = {64, 40, 160, 41, 159};
        for (int i = 0; i < rooms.length; i++) {
            if (i > 0) {
                x.begin(rooms[i]);
            }
            told(x, COPYING, FREE, rooms[i] / 2);
            told(x, NURSERY, FREE, rooms[i] / 4);
            told(x, MARKING, FREE, rooms[i]);
            told(x, COUNTING, FREE, rooms[i]);
        }
        // All of the largest room can be used.
        Tessera y = begun(160);
        makeChain(y, 40, 3);
        due("at(3, 39)", y.at(COUNTING, 39), 156);
        told(y, COUNTING, FREE, 0);
    }

    private static void placesFromZero() {
        Tessera x = begun(160);
        x.make(3, 5);
        for (int store : ALL) {
            due("at(" + store + ", 0)", x.at(store, 0), 0);
        }
    }

    private static void hasItNotAnyMore() {
        Tessera x = new Tessera();
        x.make(1, 0);
        x.make(1, 1);
        x.set(0, 0, 0);
        x.root(0, -1);
        for (int store : ALL) {
            due("at(" + store + ", 0), not reached", x.at(store, 0), 0);
            x.collect(store);
            due("at(" + store + ", 0), gone", x.at(store, 0), -1);
            due("at(" + store + ", 1) > -1", x.at(store, 1) > -1 ? 1 : 0, 1);
        }
    }

    /** Something for each store to do: a ring and a chain that are not reached, and some that are. */
    private static Tessera withSomethingForAll() {
        Tessera x = new Tessera();
        x.make(1, 0);
        x.make(1, 1);
        x.set(0, 0, 1);
        x.set(1, 0, 0);
        x.make(2, 2);
        x.make(0, 3);
        x.set(2, 1, 3);
        x.root(0, -1);
        x.root(1, -1);
        return x;
    }

    private static void eachByItself() {
        for (int store : ALL) {
            Tessera x = withSomethingForAll();
            Tessera y = withSomethingForAll();
            due("collect(" + store + ")", x.collect(store), 2);
            for (int other : ALL) {
                for (int what = 0; what <= BROKEN && other != store; what++) {
                    told(x, other, what, y.told(other, what));
                }
                for (int thing = 0; thing < 4 && other != store; thing++) {
                    due("at(" + other + ", " + thing + ")", x.at(other, thing), y.at(other, thing));
                }
            }
        }
        Tessera x = withSomethingForAll();
        x.small();
        x.steps(1);
        told(x, COPYING, WORK, 0);
        told(x, NURSERY, TIMES, 0);
        told(x, NURSERY, WORK, 4);
        told(x, MARKING, WORK, 3);
        told(x, COUNTING, TIMES, 0);
        told(x, COPYING, HAD, 4);
    }

    private static void breaksByItself() {
        Tessera x = begun(40);
        makeChain(x, 6, 3);
        told(x, COPYING, BROKEN, 1);
        told(x, NURSERY, BROKEN, 0);
        told(x, MARKING, BROKEN, 0);
        told(x, COUNTING, BROKEN, 0);
        places(x, COPYING, -1, -1, -1, -1, -1, -1);
        places(x, MARKING, 0, 4, 8, 12, 16, 20);
        places(x, COUNTING, 0, 4, 8, 12, 16, 20);
        told(x, NURSERY, HAD, 6);
        due("things()", x.things(), 6);
        due("ofThing(5, 2)", x.ofThing(5, 2), 5);
    }

    private static Tessera allBroken() {
        Tessera x = begun(40);
        makeChain(x, 11, 3);
        return x;
    }

    private static void brokenHasNothing() {
        Tessera x = allBroken();
        for (int store : ALL) {
            told(x, store, BROKEN, 1);
            told(x, store, HAD, 0);
            told(x, store, WORDS, 0);
            for (int thing = 0; thing < 11; thing++) {
                due("at(" + store + ", " + thing + ")", x.at(store, thing), -1);
            }
        }
        for (int thing = 0; thing < 11; thing++) {
            for (int what = 0; what <= SUSPECT; what++) {
                due("kept(" + thing + ", " + what + ")", x.kept(thing, what), -1);
            }
        }
    }

    /** A broken store stays as it is by all calls that could make it do something, though there would be place. */
    private static void doesNothing(int store) {
        Tessera x = allBroken();
        int[] before = new int[8];
        for (int what = 0; what < 8; what++) {
            before[what] = x.told(store, what);
        }
        due("broken", before[BROKEN], 1);
        x.set(1, 1, 0);
        x.set(1, 1, -1);
        x.root(3, 4);
        x.root(0, -1);
        dropAllRoots(x);
        makeAt(x, 0, 3, 1);
        x.set(13, 0, 13);
        due("collect(" + store + ")", x.collect(store), 0);
        x.small();
        x.steps(20);
        x.make(0, 1);
        dropAllRoots(x);
        for (int what = 0; what < 8; what++) {
            told(x, store, what, before[what]);
        }
        for (int thing = 0; thing < x.things(); thing++) {
            due("at(" + store + ", " + thing + ")", x.at(store, thing), -1);
        }
    }

    private static void brokenCopyingDoesNothing() {
        doesNothing(COPYING);
    }

    private static void brokenNurseryDoesNothing() {
        doesNothing(NURSERY);
        Tessera x = allBroken();
        int smalls = x.more(SMALLS);
        int old = x.more(GROWN_OLD);
        due("small()", x.small(), 0);
        makeAt(x, 1, 4, 3);
        more(x, SMALLS, smalls);
        more(x, GROWN_OLD, old);
    }

    private static void brokenMarkingDoesNothing() {
        doesNothing(MARKING);
        Tessera x = allBroken();
        due("steps(1)", x.steps(1), -1);
        more(x, MARKS, 0);
        x.collect(MARKING);
        more(x, MARKS, 0);
    }

    private static void brokenCountingDoesNothing() {
        doesNothing(COUNTING);
        Tessera x = allBroken();
        x.set(2, 1, 2);
        x.set(1, 0, -1);
        x.collect(COUNTING);
        more(x, BY_RINGS, 0);
    }

    private static void copyingPlacesFirst() {
        Tessera x = begun(40);
        makeAt(x, 0, 6, 3);
        // Root 0 names 4 still, as copying collects to place 5.
        places(x, COPYING, -1, -1, -1, -1, 20, 24);
        told(x, COPYING, WORK, 4);
    }

    private static void nurseryPlacesFirst() {
        Tessera x = begun(40);
        makeAt(x, 0, 3, 3);
        // Root 0 names 1 still, as the nursery collects to place 2.
        places(x, NURSERY, -1, 0, 4);
        kept(x, AGE, -1, 1, 0);
    }

    private static void markingPlacesFirst() {
        Tessera x = begun(40);
        makeAt(x, 0, 7, 3);
        // Root 0 names 5 still, as it begins to mark; 6 is black, and not grey by the root.
        kept(x, COLOUR, 0, 0, 0, 0, 0, 1, 2);
        due("steps(1)", x.steps(1), 0);
    }

    private static void countingPlacesFirst() {
        Tessera x = begun(40);
        makeAt(x, 0, 2, 3);
        // Root 0 names 0 still, as 1 is placed behind it.
        places(x, COUNTING, -1, 4);
        x.make(3, 0);
        places(x, COUNTING, -1, -1, 0);
    }

    private static void workIsSummed() {
        Tessera x = new Tessera();
        for (int store : ALL) {
            told(x, store, WORK, 0);
        }
        x.make(3, 0);
        x.make(1, 1);
        x.collect(COPYING);
        told(x, COPYING, WORK, 6);
        x.root(0, -1);
        x.collect(COPYING);
        told(x, COPYING, WORK, 8);
        x.collect(COPYING);
        told(x, COPYING, WORK, 10);
    }

    private static void pauseOfCollect() {
        for (int store : ALL) {
            Tessera x = new Tessera();
            x.make(3, 0);
            x.make(1, 1);
            x.root(2, 0);
            x.root(3, 1);
            x.root(2, -1);
            x.root(3, -1);
            int before = x.told(store, PAUSE);
            int work = x.told(store, WORK);
            x.collect(store);
            int pause = Math.max(before, x.told(store, WORK) - work);
            told(x, store, PAUSE, pause);
            // The next is a pause of its own, even with no call between.
            x.collect(store);
            told(x, store, PAUSE, pause);
        }
        Tessera x = new Tessera();
        x.make(3, 0);
        x.collect(COPYING);
        x.collect(COPYING);
        told(x, COPYING, WORK, 8);
        told(x, COPYING, PAUSE, 4);
    }

    private static void pauseOfMake() {
        // Copying collects to place the sixth, and one word more to place the tenth.
        Tessera x = begun(40);
        makeChain(x, 1, 2);
        makeAt(x, 1, 4, 3);
        x.make(3, 1);
        told(x, COPYING, WORK, 3 + 4);
        told(x, COPYING, PAUSE, 3 + 4);
        x.make(3, 2);
        x.make(3, 1);
        told(x, COPYING, PAUSE, 3 + 4);
        x.make(0, 3);
        x.make(3, 1);
        told(x, COPYING, WORK, 7 + 3 + 4 + 4 + 1);
        told(x, COPYING, PAUSE, 3 + 4 + 4 + 1);
        // What the same call does twice is one pause: marking ends two times to place thing 11.
        Tessera y = begun(40);
        makeChain(y, 10, 3);
        y.collect(MARKING);
        y.steps(7);
        y.set(2, 0, -1);
        int work = y.told(MARKING, WORK);
        y.make(3, 1);
        told(y, MARKING, TIMES, 3);
        told(y, MARKING, BROKEN, 0);
        told(y, MARKING, PAUSE, y.told(MARKING, WORK) - work);
        Tessera z = new Tessera();
        z.make(1, 0);
        told(z, COUNTING, PAUSE, 1);
        z.make(1, 0);
        told(z, COUNTING, PAUSE, 2);
        z.make(1, 1);
        told(z, COUNTING, PAUSE, 2);
        // Nine suspects are looked through to place the last, and its count goes up.
        z.begin(40);
        for (int i = 0; i < 10; i++) {
            z.make(3, 0);
            z.set(i, 0, i);
        }
        z.make(0, 1);
        told(z, COUNTING, PAUSE, 9 + 1);
    }

    private static void pauseOfSet() {
        Tessera x = new Tessera();
        makeChain(x, 6, 1);
        told(x, COUNTING, PAUSE, 1);
        // Things 2 to 5 go down.
        x.set(1, 0, -1);
        told(x, COUNTING, PAUSE, 4);
        x.set(1, 0, 1);
        x.set(0, 0, 0);
        told(x, COUNTING, PAUSE, 4);
    }

    private static void pauseOfRoot() {
        Tessera x = new Tessera();
        makeChain(x, 6, 1);
        told(x, COUNTING, PAUSE, 1);
        // Things 0 to 4 go down, after 5 went up.
        x.root(0, 5);
        told(x, COUNTING, PAUSE, 1 + 6);
        x.root(0, -1);
        told(x, COUNTING, PAUSE, 7);
    }

    private static void pauseOfSmall() {
        Tessera x = new Tessera();
        x.make(3, 0);
        x.make(1, 1);
        told(x, NURSERY, PAUSE, 0);
        x.small();
        told(x, NURSERY, PAUSE, 6);
        x.small();
        x.small();
        told(x, NURSERY, PAUSE, 6);
        told(x, NURSERY, WORK, 12);
    }

    private static void pauseOfSteps() {
        Tessera x = new Tessera();
        makeChain(x, 4, 2);
        told(x, MARKING, PAUSE, 0);
        x.steps(1);
        told(x, MARKING, PAUSE, 3);
        x.steps(1);
        told(x, MARKING, PAUSE, 3);
        x.steps(2);
        told(x, MARKING, PAUSE, 6);
        x.steps(1);
        told(x, MARKING, PAUSE, 6);
        told(x, MARKING, WORK, 16);
    }

    private static void unreachedAreNotFree() {
        Tessera x = begun(40);
        x.make(3, 0);
        x.set(0, 0, 0);
        x.root(0, -1);
        told(x, MARKING, FREE, 36);
        told(x, COUNTING, FREE, 36);
        told(x, COPYING, FREE, 16);
        told(x, NURSERY, FREE, 6);
        x.make(0, 0);
        for (int store : ALL) {
            due("at(" + store + ", 1)", x.at(store, 1), 4);
        }
        for (int store : ALL) {
            x.collect(store);
        }
        told(x, MARKING, FREE, 35);
        told(x, COUNTING, FREE, 35);
    }

    private static void newObject() {
        Tessera x = new Tessera();
        due("things()", x.things(), 0);
        for (int store : ALL) {
            for (int what = 0; what <= BROKEN; what++) {
                int free = store == COPYING ? 32 : store == NURSERY ? 16 : 64;
                told(x, store, what, what == FREE ? free : 0);
            }
        }
        due("begin(100)", x.begin(100), 64);
        goOnAlike("begun with 64", begun(64), new Tessera());
    }

    /** Very much is done, and then it begins anew: all is as with a new object. */
    private static void beginsWithNothing() {
        Tessera x = begun(70);
        makeChain(x, 9, 2);
        x.set(3, 1, 3);
        x.set(2, 0, -1);
        for (int store : ALL) {
            x.collect(store);
        }
        x.make(3, 4);
        x.small();
        x.small();
        x.make(1, 3);
        x.set(9, 0, 0);
        x.set(1, 1, 9);
        x.steps(2);
        x.root(4, -1);
        x.root(3, 1);
        for (int store : ALL) {
            for (int what = 0; what < BROKEN; what++) {
                boolean none = what == LEFT && (store == COPYING || store == COUNTING);
                due("something of " + what, x.told(store, what) > 0 || none ? 1 : 0, 1);
            }
        }
        for (int what = 0; what <= BY_RINGS; what++) {
            due("something more of " + what, x.more(what) > 0 ? 1 : 0, 1);
        }
        x.begin(55);
        for (int store : ALL) {
            told(x, store, WORK, 0);
            told(x, store, PAUSE, 0);
            told(x, store, TIMES, 0);
        }
        for (int what = 0; what <= BY_RINGS; what++) {
            more(x, what, 0);
        }
        for (int store : ALL) {
            due("wouldGo(" + store + ")", x.wouldGo(store), 0);
            due("wouldWork(" + store + ")", x.wouldWork(store), 0);
        }
        for (int root = 0; root < 6; root++) {
            due("wouldLose(" + root + ")", x.wouldLose(root), 0);
        }
        due("meanLeft()", x.meanLeft(), 0);
        due("digest() is that of a new one", x.digest() == begun(55).digest() ? 1 : 0, 1);
        goOnAlike("begun anew", x, begun(55));
    }

    private static void beginsAfterBroken() {
        Tessera x = allBroken();
        x.begin(40);
        for (int store : ALL) {
            told(x, store, BROKEN, 0);
        }
        goOnAlike("begun after all were broken", x, begun(40));
    }

    private static void beginReturnsTheOneBefore() {
        Tessera x = new Tessera();
        due("begin(40)", x.begin(40), 64);
        due("begin(40)", x.begin(40), 40);
        due("begin(160)", x.begin(160), 40);
        due("begin(64)", x.begin(64), 160);
    }

    private static void makeTakesTheRoot() {
        Tessera x = new Tessera();
        x.make(1, 2);
        x.make(1, 2);
        due("ofThing(0, 1)", x.ofThing(0, 1), 0);
        due("ofThing(1, 1)", x.ofThing(1, 1), 1);
        due("root(2, -1)", x.root(2, -1), 1);
        for (int root = 0; root < 6; root++) {
            due("root(" + root + ", -1)", x.root(root, -1), -1);
        }
    }

    private static void makeReturnsNumber() {
        Tessera x = new Tessera();
        due("make(3, 5)", x.make(3, 5), 0);
        due("make(0, 5)", x.make(0, 5), 1);
        x.root(5, -1);
        x.collect(COUNTING);
        due("make(2, 0)", x.make(2, 0), 2);
    }

    private static void setsEachField() {
        Tessera x = new Tessera();
        x.make(3, 0);
        for (int i = 1; i <= 3; i++) {
            x.make(0, i);
            x.set(0, i - 1, i);
        }
        for (int field = 0; field < 3; field++) {
            due("named(0, " + field + ")", x.named(0, field), field + 1);
        }
        x.make(3, 4);
        for (int field = 0; field < 3; field++) {
            due("named(4, " + field + ")", x.named(4, field), -1);
        }
    }

    private static void setsNone() {
        Tessera x = new Tessera();
        makeChain(x, 2, 1);
        due("set(0, 0, -1)", x.set(0, 0, -1), 1);
        due("named(0, 0)", x.named(0, 0), -1);
        due("ofThing(1, 1)", x.ofThing(1, 1), 0);
        due("set(0, 0, -1)", x.set(0, 0, -1), -1);
    }

    private static void setReturnsTheOneBefore() {
        Tessera x = new Tessera();
        x.make(1, 0);
        x.make(0, 1);
        due("set(0, 0, 1)", x.set(0, 0, 1), -1);
        due("set(0, 0, 1)", x.set(0, 0, 1), 1);
        due("set(0, 0, 0)", x.set(0, 0, 0), 1);
        due("set(0, 0, 1)", x.set(0, 0, 1), 0);
    }

    private static void setsItself() {
        Tessera x = new Tessera();
        x.make(1, 0);
        due("set(0, 0, 0)", x.set(0, 0, 0), -1);
        due("named(0, 0)", x.named(0, 0), 0);
        kept(x, COUNT, 2);
        due("ofThing(0, 2)", x.ofThing(0, 2), 0);
    }

    private static void rootNamesNone() {
        Tessera x = new Tessera();
        x.make(0, 3);
        due("root(3, -1)", x.root(3, -1), 0);
        due("ofThing(0, 1)", x.ofThing(0, 1), 0);
        due("root(3, -1)", x.root(3, -1), -1);
    }

    private static void rootReturnsTheOneBefore() {
        Tessera x = new Tessera();
        x.make(0, 0);
        x.make(0, 1);
        due("root(0, 1)", x.root(0, 1), 0);
        due("root(0, 1)", x.root(0, 1), 1);
        due("root(5, 1)", x.root(5, 1), -1);
        due("root(1, -1)", x.root(1, -1), 1);
    }

    private static void thingsWereMade() {
        Tessera x = new Tessera();
        due("things()", x.things(), 0);
        x.make(0, 0);
        due("things()", x.things(), 1);
        x.root(0, -1);
        for (int store : ALL) {
            x.collect(store);
        }
        due("things(), gone or not", x.things(), 1);
        makeAt(x, 0, 79, 0);
        due("things()", x.things(), 80);
        answer(x, o -> o.make(0, 0));
        due("things(), one more refused", x.things(), 80);
    }

    private static void ofThingOfUnreached() {
        Tessera x = new Tessera();
        x.make(3, 0);
        x.root(0, -1);
        for (int store : ALL) {
            x.collect(store);
        }
        due("ofThing(0, 0)", x.ofThing(0, 0), 3);
        due("ofThing(0, 1)", x.ofThing(0, 1), 0);
    }

    private static void distanceIsTheLeast() {
        Tessera x = new Tessera();
        makeChain(x, 5, 2);
        due("ofThing(4, 2)", x.ofThing(4, 2), 4);
        // The shorter way goes over field 1 of a later thing, and is named after the longer one.
        x.set(1, 1, 4);
        due("ofThing(4, 2)", x.ofThing(4, 2), 2);
        x.root(2, 3);
        due("ofThing(4, 2)", x.ofThing(4, 2), 1);
        x.root(2, -1);
        x.set(1, 1, -1);
        due("ofThing(4, 2)", x.ofThing(4, 2), 4);
        Tessera y = begun(160);
        makeChain(y, 80, 1);
        due("ofThing(79, 2)", y.ofThing(79, 2), 79);
    }

    private static void distanceOfRoots() {
        Tessera x = new Tessera();
        makeChain(x, 3, 1);
        x.root(5, 2);
        due("ofThing(0, 2)", x.ofThing(0, 2), 0);
        due("ofThing(1, 2)", x.ofThing(1, 2), 1);
        due("ofThing(2, 2)", x.ofThing(2, 2), 0);
        x.set(2, 0, 0);
        due("ofThing(0, 2)", x.ofThing(0, 2), 0);
    }

    private static void distanceOfUnreached() {
        Tessera x = new Tessera();
        makeChain(x, 3, 1);
        x.set(2, 0, 1);
        x.set(0, 0, -1);
        due("ofThing(0, 2)", x.ofThing(0, 2), 0);
        due("ofThing(1, 2)", x.ofThing(1, 2), -1);
        due("ofThing(2, 2)", x.ofThing(2, 2), -1);
    }

    private static void namedAsItWasLast() {
        Tessera x = new Tessera();
        makeChain(x, 3, 1);
        x.root(0, -1);
        for (int store : ALL) {
            x.collect(store);
        }
        due("named(0, 0)", x.named(0, 0), 1);
        due("named(1, 0)", x.named(1, 0), 2);
    }

    private static void namedNone() {
        Tessera x = new Tessera();
        x.make(2, 0);
        due("named(0, 1)", x.named(0, 1), -1);
        x.set(0, 1, 0);
        x.set(0, 1, -1);
        due("named(0, 1)", x.named(0, 1), -1);
        x.root(0, -1);
        due("named(0, 1)", x.named(0, 1), -1);
    }
}
