import java.util.ArrayDeque;
import java.util.ArrayList;
import java.util.Arrays;
import java.util.Collections;
import java.util.LinkedHashMap;
import java.util.LinkedHashSet;
import java.util.List;
import java.util.Map;
import java.util.Set;
import java.util.TreeMap;
import java.util.TreeSet;

/**
 * Plays long runs of calls on Tessera and on a plain model of the document side by side, and compares every answer.
 * The model foretells what would be by doing it on a copy of itself, so that it shares no short cut with Tessera.
 */
public final class ModelTest {
    private static final int RUNS = 200;
    private static final int CALLS = 512;
    // What one turn of a run calls at the most, so that no run has more calls than the document promises for.
    private static final int MOST_AT_ONCE = 16;
    private static int wrong = 0;

    public static void main(String[] args) {
        Map<String, Integer> seen = new TreeMap<>();
        for (int run = 0; run < RUNS && wrong < 5; run++) {
            new Player(run, seen).play();
        }
        for (String event : EVENTS) {
            if (seen.getOrDefault(event, 0) < 5) {
                report("the runs come to '" + event + "' only " + seen.getOrDefault(event, 0) + " times");
            }
        }
        System.out.println(wrong == 0 ? RUNS + " runs are as the model's: " + seen : wrong + " answers are wrong");
        if (wrong != 0) {
            System.exit(1);
        }
    }

    private static final List<String> EVENTS = List.of(
            "copying collects to place", "copying breaks", "small to place", "small turns great", "small is not enough",
            "great breaks", "great breaks to place", "marking begins to place", "marking steps ahead, one",
            "marking steps ahead, two", "marking ends to place", "marking ends twice to place", "marking breaks",
            "placed black", "field barrier", "root barrier", "counting cascade", "rings to place", "rings let go",
            "rings leave out", "counting breaks", "80 things");

    static void report(String text) {
        wrong++;
        System.out.println(text);
    }

    interface Call {
        double on(Lab lab);
    }

    /** The face, so that one and the same call can be put to both. */
    interface Lab {
        int begin(int room);
        int make(int fields, int root);
        int set(int thing, int field, int other);
        int root(int root, int thing);
        int things();
        int ofThing(int thing, int what);
        int named(int thing, int field);
        int collect(int store);
        int small();
        int steps(int steps);
        int at(int store, int thing);
        int told(int store, int what);
        int kept(int thing, int what);
        int more(int what);
        int wouldGo(int store);
        int wouldWork(int store);
        int wouldLose(int root);
        double meanLeft();
        long digest();
    }

    static final class Real implements Lab {
        private final Tessera x = new Tessera();
        public int begin(int room) { return x.begin(room); }
        public int make(int fields, int root) { return x.make(fields, root); }
        public int set(int thing, int field, int other) { return x.set(thing, field, other); }
        public int root(int root, int thing) { return x.root(root, thing); }
        public int things() { return x.things(); }
        public int ofThing(int thing, int what) { return x.ofThing(thing, what); }
        public int named(int thing, int field) { return x.named(thing, field); }
        public int collect(int store) { return x.collect(store); }
        public int small() { return x.small(); }
        public int steps(int steps) { return x.steps(steps); }
        public int at(int store, int thing) { return x.at(store, thing); }
        public int told(int store, int what) { return x.told(store, what); }
        public int kept(int thing, int what) { return x.kept(thing, what); }
        public int more(int what) { return x.more(what); }
        public int wouldGo(int store) { return x.wouldGo(store); }
        public int wouldWork(int store) { return x.wouldWork(store); }
        public int wouldLose(int root) { return x.wouldLose(root); }
        public double meanLeft() { return x.meanLeft(); }
        public long digest() { return x.digest(); }
    }

    /** Chooses the calls of one run by a plain generator with the run's number as its seed. */
    static final class Player {
        private final Lab real = new Real();
        private final Model model;
        private final int run;
        private final int temper;
        private long state;
        private int calls = 0;
        private String told = "";

        Player(int run, Map<String, Integer> seen) {
            this.run = run;
            this.temper = run % 5;
            this.state = run * 7919L + 17;
            this.model = new Model(seen);
        }

        int below(int bound) {
            state = state * 6364136223846793005L + 1442695040888963407L;
            return (int) ((state >>> 33) % bound);
        }

        void play() {
            if (below(4) != 0) {
                begin();
            }
            while (calls < CALLS - MOST_AT_ONCE && wrong == 0) {
                change();
                if (calls % 8 == 0) {
                    checkDigest();
                }
                if (below(12) == 0) {
                    ask();
                }
            }
        }

        void begin() {
            int room = 40 + below(121);
            check("begin(" + room + ")", lab -> lab.begin(room));
        }

        int anyThing() {
            int n = model.things.size();
            if (below(25) == 0 || n == 0) {
                return oddNumber(n);
            }
            List<Integer> reached = new ArrayList<>(model.reached());
            if (below(10) != 0 && !reached.isEmpty()) {
                return reached.get(below(reached.size()));
            }
            return below(n);
        }

        int oddNumber(int edge) {
            int[] odd = {-1, -2, edge, edge + 1, Integer.MAX_VALUE, Integer.MIN_VALUE, 80, 160};
            return odd[below(odd.length)];
        }

        void change() {
            int what = below(100);
            if (temper == 3 && what < 40) {
                keepAndMake();
            } else if (what < 34) {
                int fields = below(40) == 0 ? oddNumber(4) : temper == 1 ? 3 : below(4);
                int root = below(60) == 0 ? oddNumber(6) : temper == 2 ? below(2) : below(6);
                check("make(" + fields + ", " + root + ")", lab -> lab.make(fields, root));
            } else if (what < 66) {
                int thing = anyThing();
                int field = below(30) == 0 ? oddNumber(3) : below(3);
                int other = below(5) == 0 ? -1 : anyThing();
                check("set(" + thing + ", " + field + ", " + other + ")", lab -> lab.set(thing, field, other));
            } else if (what < (temper == 3 ? 67 : 82)) {
                int root = below(60) == 0 ? oddNumber(6) : below(6);
                int thing = below(temper == 4 ? 2 : 3) == 0 ? -1 : anyThing();
                check("root(" + root + ", " + thing + ")", lab -> lab.root(root, thing));
            } else if (what < 85) {
                int store = below(20) == 0 ? oddNumber(4) : below(4);
                check("collect(" + store + ")", lab -> lab.collect(store));
            } else if (what < 88) {
                check("small()", Lab::small);
            } else if (what < 93) {
                int steps = below(20) == 0 ? oddNumber(21) : below(3) == 0 ? 1 + below(20) : 1 + below(3);
                check("steps(" + steps + ")", lab -> lab.steps(steps));
            } else if (what == 93 && below(temper == 1 ? 4 : 12) == 0) {
                begin();
            } else if (what == 94) {
                int room = oddNumber(below(2) == 0 ? 161 : 39);
                check("begin(" + room + ")", lab -> lab.begin(room));
            }
        }

        /** Lets a field keep what a root names, so that more and more is reached till the stores break. */
        void keepAndMake() {
            int root = below(6);
            int kept = Model.number(model.roots[root]);
            int keeper = Model.number(model.roots[(root + 1 + below(5)) % 6]);
            if (kept >= 0 && keeper >= 0) {
                int field = below(3);
                check("set(" + keeper + ", " + field + ", " + kept + ")", lab -> lab.set(keeper, field, kept));
            }
            check("make(3, " + root + ")", lab -> lab.make(3, root));
        }

        void ask() {
            int thing = below(8) == 0 ? oddNumber(model.things.size()) : anyThing();
            int store = below(8) == 0 ? oddNumber(4) : below(4);
            int what = below(12) - 2;
            check("things()", Lab::things);
            check("ofThing(" + thing + ", " + what + ")", lab -> lab.ofThing(thing, what));
            check("named(" + thing + ", " + what + ")", lab -> lab.named(thing, what));
            check("at(" + store + ", " + thing + ")", lab -> lab.at(store, thing));
            check("told(" + store + ", " + what + ")", lab -> lab.told(store, what));
            check("kept(" + thing + ", " + what + ")", lab -> lab.kept(thing, what));
            check("more(" + what + ")", lab -> lab.more(what));
            check("wouldGo(" + store + ")", lab -> lab.wouldGo(store));
            check("wouldWork(" + store + ")", lab -> lab.wouldWork(store));
            check("wouldLose(" + what + ")", lab -> lab.wouldLose(what));
            check("meanLeft()", Lab::meanLeft);
        }

        void checkDigest() {
            calls++;
            if (real.digest() != model.digest()) {
                report("run " + run + ": after " + told + " the digests differ");
            }
        }

        void check(String name, Call call) {
            calls++;
            told = calls < 60 ? told + " " + name : "..";
            String got = answer(call, real);
            String due = answer(call, model);
            if (!got.equals(due)) {
                report("run " + run + ": after " + told + " " + name + " answered " + got + ", due is " + due);
            }
        }

        static String answer(Call call, Lab lab) {
            try {
                return Double.toString(call.on(lab));
            } catch (RuntimeException e) {
                // By the exact class, for a machine's exception of a class below would be wrong.
                return e.getClass().getName();
            }
        }
    }

    static final class Thing {
        final Integer[] fields;
        Thing(int fields) {
            this.fields = new Integer[fields];
        }
        Thing(Thing old) {
            fields = old.fields.clone();
        }
        int words() {
            return fields.length + 1;
        }
    }

    /** The document, as plainly as it can be said, with the library's sets and maps. */
    static final class Model implements Lab {
        final Map<String, Integer> seen;
        int room = 64;
        List<Thing> things = new ArrayList<>();
        Integer[] roots = new Integer[6];
        Keeper[] stores;

        Model(Map<String, Integer> seen) {
            this.seen = seen;
            fresh();
        }

        Model(Model old) {
            seen = new TreeMap<>();
            room = old.room;
            for (Thing t : old.things) {
                things.add(new Thing(t));
            }
            roots = old.roots.clone();
            fresh();
            for (int s = 0; s < 4; s++) {
                stores[s].takeOver(old.stores[s]);
            }
        }

        void fresh() {
            stores = new Keeper[] {new Copier(this), new Nurse(this), new Marker(this), new Counter(this)};
        }

        void saw(String event) {
            seen.merge(event, 1, Integer::sum);
        }

        Set<Integer> reached() {
            return reachedFrom(Arrays.asList(roots));
        }

        Set<Integer> reachedFrom(List<Integer> starts) {
            Set<Integer> all = new TreeSet<>();
            for (Integer s : starts) {
                walk(s, all);
            }
            return all;
        }

        void walk(Integer thing, Set<Integer> all) {
            if (thing != null && all.add(thing)) {
                for (Integer other : things.get(thing).fields) {
                    walk(other, all);
                }
            }
        }

        int distance(int thing) {
            Set<Integer> level = new TreeSet<>();
            for (Integer r : roots) {
                if (r != null) {
                    level.add(r);
                }
            }
            for (int d = 0; d <= 80; d++) {
                if (level.contains(thing)) {
                    return d;
                }
                Set<Integer> next = new TreeSet<>();
                for (int t : level) {
                    for (Integer other : things.get(t).fields) {
                        if (other != null) {
                            next.add(other);
                        }
                    }
                }
                level = next;
            }
            return -1;
        }

        static int number(Integer thing) {
            return thing == null ? -1 : thing;
        }

        static Integer thing(int number) {
            return number == -1 ? null : number;
        }

        void outside(boolean bad) {
            if (bad) {
                throw new IndexOutOfBoundsException();
            }
        }

        void what(int what, int most) {
            if (what < 0 || what > most) {
                throw new IllegalArgumentException();
            }
        }

        void isThing(int thing) {
            outside(thing < 0 || thing >= things.size());
        }

        public int begin(int room) {
            what(room - 40, 120);
            int before = this.room;
            this.room = room;
            things = new ArrayList<>();
            roots = new Integer[6];
            fresh();
            return before;
        }

        public int make(int fields, int root) {
            what(fields, 3);
            outside(root < 0 || root > 5);
            if (things.size() == 80) {
                saw("80 things");
                throw new IllegalStateException();
            }
            int thing = things.size();
            things.add(new Thing(fields));
            pauses(() -> {
                for (Keeper k : stores) {
                    if (!k.broken) {
                        k.place(thing);
                    }
                }
                rename(root, thing);
            });
            return thing;
        }

        void pauses(Runnable call) {
            int[] ahead = new int[4];
            for (int s = 0; s < 4; s++) {
                ahead[s] = stores[s].work;
            }
            call.run();
            for (int s = 0; s < 4; s++) {
                stores[s].longest = Math.max(stores[s].longest, stores[s].work - ahead[s]);
            }
        }

        void rename(int root, Integer thing) {
            Integer before = roots[root];
            if (number(before) == number(thing)) {
                return;
            }
            roots[root] = thing;
            for (Keeper k : stores) {
                if (!k.broken) {
                    k.renamed(null, before, thing);
                }
            }
        }

        public int set(int thing, int field, int other) {
            Set<Integer> reached = reached();
            outside(!reached.contains(thing) || other != -1 && !reached.contains(other));
            Integer[] fields = things.get(thing).fields;
            outside(field < 0 || field >= fields.length);
            Integer before = fields[field];
            if (number(before) != other) {
                fields[field] = thing(other);
                pauses(() -> {
                    for (Keeper k : stores) {
                        if (!k.broken) {
                            k.renamed(thing, before, thing(other));
                        }
                    }
                });
            }
            return number(before);
        }

        public int root(int root, int thing) {
            outside(root < 0 || root > 5 || thing != -1 && !reached().contains(thing));
            int before = number(roots[root]);
            pauses(() -> rename(root, thing(thing)));
            return before;
        }

        public int things() {
            return things.size();
        }

        public int ofThing(int thing, int what) {
            isThing(thing);
            what(what, 2);
            return what == 0 ? things.get(thing).fields.length
                    : what == 1 ? (reached().contains(thing) ? 1 : 0) : distance(thing);
        }

        public int named(int thing, int field) {
            isThing(thing);
            outside(field < 0 || field >= things.get(thing).fields.length);
            return number(things.get(thing).fields[field]);
        }

        public int collect(int store) {
            outside(store < 0 || store > 3);
            return goneBy(store, () -> stores[store].collect());
        }

        int goneBy(int store, Runnable collecting) {
            if (stores[store].broken) {
                return 0;
            }
            int had = stores[store].places.size();
            pauses(collecting);
            return stores[store].broken ? 0 : had - stores[store].places.size();
        }

        public int small() {
            return goneBy(1, () -> ((Nurse) stores[1]).small());
        }

        public int steps(int steps) {
            what(steps - 1, 19);
            Marker m = (Marker) stores[2];
            if (m.broken) {
                return -1;
            }
            pauses(() -> {
                m.beginIfNot();
                for (int i = 0; i < steps && m.marks; i++) {
                    m.step();
                }
            });
            return m.marks ? m.greys.size() : -1;
        }

        public int at(int store, int thing) {
            outside(store < 0 || store > 3);
            isThing(thing);
            return stores[store].places.getOrDefault(thing, -1);
        }

        public int told(int store, int what) {
            outside(store < 0 || store > 3);
            what(what, 7);
            Keeper k = stores[store];
            Set<Integer> left = new TreeSet<>(k.places.keySet());
            left.removeAll(reached());
            int[] all = {k.places.size(), k.words(k.places.keySet()), left.size(), k.work, k.longest,
                k.broken ? 0 : k.free(), k.times, k.broken ? 1 : 0};
            return all[what];
        }

        public int kept(int thing, int what) {
            isThing(thing);
            what(what, 4);
            Nurse n = (Nurse) stores[1];
            Marker m = (Marker) stores[2];
            Counter c = (Counter) stores[3];
            Keeper k = what < 2 ? n : what == 2 ? m : c;
            if (!k.places.containsKey(thing)) {
                return -1;
            }
            int[] all = {what == 0 ? n.age(thing) : 0, what == 1 && n.remembered().contains(thing) ? 1 : 0,
                what == 2 ? m.colour(thing) : 0, what == 3 ? c.count(thing) : 0, c.suspects.contains(thing) ? 1 : 0};
            return all[what];
        }

        public int more(int what) {
            what(what, 3);
            Nurse n = (Nurse) stores[1];
            int[] all = {n.smalls, n.grownOld, ((Marker) stores[2]).marks ? 1 : 0, ((Counter) stores[3]).byRings};
            return all[what];
        }

        public int wouldGo(int store) {
            return new Model(this).collect(store);
        }

        public int wouldWork(int store) {
            outside(store < 0 || store > 3);
            Model other = new Model(this);
            other.collect(store);
            return other.stores[store].broken ? 0 : other.stores[store].work - stores[store].work;
        }

        public int wouldLose(int root) {
            outside(root < 0 || root > 5);
            Model other = new Model(this);
            other.roots[root] = null;
            return reached().size() - other.reached().size();
        }

        public double meanLeft() {
            List<Integer> left = new ArrayList<>();
            for (int s = 0; s < 4; s++) {
                if (told(s, 7) == 0) {
                    left.add(told(s, 2));
                }
            }
            return left.stream().mapToInt(i -> i).average().orElse(0);
        }

        public long digest() {
            List<Integer> all = new ArrayList<>();
            all.add(things());
            for (int t = 0; t < things(); t++) {
                for (int w = 0; w < 3; w++) {
                    all.add(ofThing(t, w));
                }
                for (int f = 0; f < ofThing(t, 0); f++) {
                    all.add(named(t, f));
                }
                for (int s = 0; s < 4; s++) {
                    all.add(at(s, t));
                }
                for (int w = 0; w < 5; w++) {
                    all.add(kept(t, w));
                }
            }
            for (int s = 0; s < 4; s++) {
                for (int w = 0; w < 8; w++) {
                    all.add(told(s, w));
                }
                all.add(wouldGo(s));
                all.add(wouldWork(s));
            }
            for (int w = 0; w < 4; w++) {
                all.add(more(w));
            }
            for (int r = 0; r < 6; r++) {
                all.add(wouldLose(r));
            }
            long d = 58088;
            for (int x : all) {
                d = d * 31 + x;
            }
            return d;
        }
    }

    /** A store of the model. */
    abstract static class Keeper {
        final Model lab;
        Map<Integer, Integer> places = new LinkedHashMap<>();
        int work;
        int longest;
        int times;
        boolean broken;

        Keeper(Model lab) {
            this.lab = lab;
        }

        void takeOver(Keeper old) {
            places = new LinkedHashMap<>(old.places);
            work = old.work;
            longest = old.longest;
            times = old.times;
            broken = old.broken;
        }

        abstract void place(int thing);

        abstract void collect();

        abstract int free();

        void renamed(Integer namer, Integer before, Integer after) {
        }

        void breaks(String event) {
            lab.saw(event);
            broken = true;
            places.clear();
        }

        int words(int thing) {
            return lab.things.get(thing).words();
        }

        int words(Iterable<Integer> some) {
            int sum = 0;
            for (int t : some) {
                sum += words(t);
            }
            return sum;
        }

        List<Integer> fields(int thing) {
            return Arrays.asList(lab.things.get(thing).fields);
        }

        /** The first place from the beginning on that is behind all things below the end. */
        int behind(int start, int end) {
            int last = start;
            for (Map.Entry<Integer, Integer> e : places.entrySet()) {
                if (e.getValue() >= start && e.getValue() < end) {
                    last = Math.max(last, e.getValue() + words(e.getKey()));
                }
            }
            return last;
        }

        List<Integer> byPlace(int start, int end) {
            List<Integer> some = new ArrayList<>();
            for (Map.Entry<Integer, Integer> e : places.entrySet()) {
                if (e.getValue() >= start && e.getValue() < end) {
                    some.add(e.getKey());
                }
            }
            some.sort((a, b) -> places.get(a) - places.get(b));
            return some;
        }
    }

    static final class Copier extends Keeper {
        int half = 0;

        Copier(Model lab) {
            super(lab);
        }

        void takeOver(Keeper old) {
            super.takeOver(old);
            half = ((Copier) old).half;
        }

        int start() {
            return half * (lab.room / 2);
        }

        int end() {
            return start() + lab.room / 2;
        }

        int free() {
            return end() - behind(start(), end());
        }

        void place(int thing) {
            if (free() < words(thing)) {
                lab.saw("copying collects to place");
                collect();
            }
            if (free() < words(thing)) {
                breaks("copying breaks");
            } else {
                places.put(thing, behind(start(), end()));
            }
        }

        void collect() {
            half = 1 - half;
            Map<Integer, Integer> there = new LinkedHashMap<>();
            ArrayDeque<Integer> toLook = new ArrayDeque<>();
            int[] next = {start()};
            for (Integer r : lab.roots) {
                copy(r, there, toLook, next);
            }
            while (!toLook.isEmpty()) {
                for (Integer other : fields(toLook.removeFirst())) {
                    copy(other, there, toLook, next);
                }
            }
            places = there;
            times++;
        }

        void copy(Integer thing, Map<Integer, Integer> there, ArrayDeque<Integer> toLook, int[] next) {
            if (thing == null || there.containsKey(thing)) {
                return;
            }
            there.put(thing, next[0]);
            toLook.addLast(thing);
            next[0] += words(thing);
            work += words(thing);
        }
    }

    static final class Nurse extends Keeper {
        int smalls;
        int grownOld;
        Set<Integer> aged = new TreeSet<>();

        Nurse(Model lab) {
            super(lab);
        }

        void takeOver(Keeper old) {
            super.takeOver(old);
            smalls = ((Nurse) old).smalls;
            grownOld = ((Nurse) old).grownOld;
            aged = new TreeSet<>(((Nurse) old).aged);
        }

        int edge() {
            return lab.room / 4;
        }

        boolean isYoung(Integer thing) {
            return thing != null && places.containsKey(thing) && places.get(thing) < edge();
        }

        int age(int thing) {
            return !isYoung(thing) ? 2 : aged.contains(thing) ? 1 : 0;
        }

        Set<Integer> remembered() {
            Set<Integer> all = new TreeSet<>();
            for (int t : places.keySet()) {
                for (Integer other : fields(t)) {
                    if (!isYoung(t) && isYoung(other)) {
                        all.add(t);
                    }
                }
            }
            return all;
        }

        int free() {
            return edge() - behind(0, edge());
        }

        void place(int thing) {
            if (free() < words(thing)) {
                lab.saw("small to place");
                small();
            }
            if (!broken && free() < words(thing)) {
                lab.saw("small is not enough");
                collect();
            }
            if (broken) {
                lab.saw("great breaks to place");
            } else if (free() < words(thing)) {
                breaks("nursery breaks though it is empty");
            } else {
                places.put(thing, behind(0, edge()));
            }
        }

        void small() {
            List<Integer> ripe = new ArrayList<>();
            for (int t : byPlace(0, edge())) {
                if (aged.contains(t)) {
                    ripe.add(t);
                }
            }
            if (words(ripe) > lab.room - behind(edge(), lab.room)) {
                lab.saw("small turns great");
                collect();
                return;
            }
            Set<Integer> found = find();
            for (int t : byPlace(0, edge())) {
                places.remove(t);
            }
            for (int t : found) {
                if (aged.contains(t)) {
                    places.put(t, behind(edge(), lab.room));
                    grownOld += words(t);
                } else {
                    places.put(t, behind(0, edge()));
                }
                work += words(t);
            }
            aged = new TreeSet<>();
            for (int t : byPlace(0, edge())) {
                aged.add(t);
            }
            smalls++;
        }

        Set<Integer> find() {
            List<Integer> found = new ArrayList<>();
            for (Integer r : lab.roots) {
                find(r, found);
            }
            for (int t : remembered()) {
                for (Integer other : fields(t)) {
                    find(other, found);
                }
            }
            for (int i = 0; i < found.size(); i++) {
                for (Integer other : fields(found.get(i))) {
                    find(other, found);
                }
            }
            return new LinkedHashSet<>(found);
        }

        void find(Integer thing, List<Integer> found) {
            if (isYoung(thing) && !found.contains(thing)) {
                found.add(thing);
            }
        }

        void collect() {
            List<Integer> all = byPlace(edge(), lab.room);
            all.addAll(byPlace(0, edge()));
            all.retainAll(lab.reached());
            if (words(all) > lab.room - edge()) {
                breaks("great breaks");
                aged.clear();
                return;
            }
            places.clear();
            aged.clear();
            int next = edge();
            for (int t : all) {
                places.put(t, next);
                next += words(t);
                work += words(t);
            }
            times++;
        }
    }

    abstract static class Spreader extends Keeper {
        Spreader(Model lab) {
            super(lab);
        }

        boolean[] freeWords() {
            boolean[] free = new boolean[lab.room];
            Arrays.fill(free, true);
            for (Map.Entry<Integer, Integer> e : places.entrySet()) {
                for (int i = 0; i < words(e.getKey()); i++) {
                    if (!free[e.getValue() + i]) {
                        report("the model puts two things at one place");
                    }
                    free[e.getValue() + i] = false;
                }
            }
            return free;
        }

        int freeCount() {
            int sum = 0;
            for (boolean f : freeWords()) {
                sum += f ? 1 : 0;
            }
            return sum;
        }

        int placeFor(int words) {
            boolean[] free = freeWords();
            for (int p = 0; p + words <= lab.room; p++) {
                boolean all = true;
                for (int i = p; i < p + words; i++) {
                    all &= free[i];
                }
                if (all) {
                    return p;
                }
            }
            return -1;
        }

        int free() {
            int most = 0;
            for (int words = 1; words <= lab.room; words++) {
                most = placeFor(words) >= 0 ? words : most;
            }
            return most;
        }
    }

    static final class Marker extends Spreader {
        boolean marks;
        ArrayDeque<Integer> greys = new ArrayDeque<>();
        Set<Integer> blacks = new TreeSet<>();

        Marker(Model lab) {
            super(lab);
        }

        void takeOver(Keeper old) {
            super.takeOver(old);
            marks = ((Marker) old).marks;
            greys = new ArrayDeque<>(((Marker) old).greys);
            blacks = new TreeSet<>(((Marker) old).blacks);
        }

        int colour(int thing) {
            return blacks.contains(thing) ? 2 : greys.contains(thing) ? 1 : 0;
        }

        void greyIfWhite(Integer thing) {
            if (thing != null && places.containsKey(thing) && colour(thing) == 0) {
                greys.addLast(thing);
            }
        }

        void beginIfNot() {
            if (!marks) {
                marks = true;
                for (Integer r : lab.roots) {
                    greyIfWhite(r);
                }
            }
        }

        void step() {
            if (greys.isEmpty()) {
                work += places.size();
                places.keySet().retainAll(blacks);
                blacks.clear();
                marks = false;
                times++;
                return;
            }
            int thing = greys.removeFirst();
            blacks.add(thing);
            work++;
            for (Integer other : fields(thing)) {
                work++;
                greyIfWhite(other);
            }
        }

        void collect() {
            beginIfNot();
            while (marks) {
                step();
            }
        }

        void place(int thing) {
            if (marks) {
                step();
                lab.saw(marks ? "marking steps ahead, two" : "marking steps ahead, one");
                if (marks) {
                    step();
                }
            } else if (freeCount() < lab.room / 2) {
                lab.saw("marking begins to place");
                beginIfNot();
            }
            if (placeFor(words(thing)) < 0) {
                lab.saw("marking ends to place");
                collect();
            }
            if (placeFor(words(thing)) < 0) {
                lab.saw("marking ends twice to place");
                collect();
            }
            if (placeFor(words(thing)) < 0) {
                breaks("marking breaks");
                return;
            }
            places.put(thing, placeFor(words(thing)));
            if (marks) {
                lab.saw("placed black");
                blacks.add(thing);
            }
        }

        void renamed(Integer namer, Integer before, Integer after) {
            if (marks && after != null && colour(after) == 0 && (namer == null || colour(namer) == 2)) {
                lab.saw(namer == null ? "root barrier" : "field barrier");
                greyIfWhite(after);
            }
        }
    }

    static final class Counter extends Spreader {
        int byRings;
        Map<Integer, Integer> counts = new TreeMap<>();
        Set<Integer> suspects = new TreeSet<>();

        Counter(Model lab) {
            super(lab);
        }

        void takeOver(Keeper old) {
            super.takeOver(old);
            byRings = ((Counter) old).byRings;
            counts = new TreeMap<>(((Counter) old).counts);
            suspects = new TreeSet<>(((Counter) old).suspects);
        }

        /** By its meaning, and not by what went up and down. */
        int count(int thing) {
            int sum = Collections.frequency(Arrays.asList(lab.roots), thing);
            for (int t : places.keySet()) {
                sum += Collections.frequency(fields(t), thing);
            }
            return sum;
        }

        void place(int thing) {
            if (placeFor(words(thing)) < 0) {
                lab.saw("rings to place");
                collect();
            }
            if (placeFor(words(thing)) < 0) {
                breaks("counting breaks");
                suspects.clear();
                return;
            }
            places.put(thing, placeFor(words(thing)));
            counts.put(thing, 0);
        }

        void renamed(Integer namer, Integer before, Integer after) {
            if (after != null) {
                counts.merge(after, 1, Integer::sum);
                work++;
            }
            if (before != null) {
                down(before, false);
            }
        }

        void down(int thing, boolean brought) {
            counts.merge(thing, -1, Integer::sum);
            work++;
            if (counts.get(thing) > 0) {
                suspects.add(thing);
                return;
            }
            if (brought) {
                lab.saw("counting cascade");
            }
            places.remove(thing);
            suspects.remove(thing);
            for (Integer other : fields(thing)) {
                if (other != null) {
                    down(other, true);
                }
            }
        }

        void collect() {
            Set<Integer> such = lab.reachedFrom(new ArrayList<>(suspects));
            List<Integer> outside = new ArrayList<>();
            for (int t : such) {
                int inside = 0;
                for (int from : such) {
                    inside += Collections.frequency(fields(from), t);
                }
                if (counts.get(t) > inside) {
                    outside.add(t);
                }
            }
            Set<Integer> left = lab.reachedFrom(outside);
            Set<Integer> gone = new TreeSet<>(such);
            gone.removeAll(left);
            lab.saw(gone.isEmpty() ? "rings found none" : "rings let go");
            if (!left.isEmpty() && !gone.isEmpty()) {
                lab.saw("rings leave out");
            }
            places.keySet().removeAll(gone);
            for (int t : gone) {
                for (Integer other : fields(t)) {
                    if (other != null) {
                        counts.merge(other, -1, Integer::sum);
                    }
                }
            }
            for (int t : places.keySet()) {
                if (counts.get(t) != count(t)) {
                    report("the model's counts are not what they mean");
                }
            }
            suspects.clear();
            byRings += gone.size();
            work += such.size();
            times++;
        }
    }
}
