// A case for each sentence of the document that names a boundary: too small, too large, empty, full,
// a wrap-around, a refused call. A case bears the words it tests, at times with the side of them that it
// looks at, and makes its own objects, so that a broken sentence is told by name. No object here gets more
// than the 512 calls for which the document speaks.
public final class BoundaryTest {
    private static final int MIN = Integer.MIN_VALUE;
    private static final int MAX = Integer.MAX_VALUE;
    private static final int BAD_KEY = -1;
    private static final int FULL = -2;
    private static final int NO_ROW = -3;
    private static final int BAD_BOUND = -4;
    private static final int NO_PARTITION = -5;

    private interface Make {
        PartitionPruner object();
    }

    private interface Call {
        int on(PartitionPruner x);
    }

    private interface Probe {
        String of(PartitionPruner x);
    }

    private static int wrong = 0;
    private static int cases = 0;
    private static String words = "";

    private static void due(String call, Object got, Object want) {
        if (!want.equals(got)) {
            wrong++;
            System.out.println(words + ": " + call + " answered " + got + ", due is " + want);
        }
    }

    // A case that throws is one wrong answer, and the cases after it still run.
    private static void at(String place, String sentence, Runnable test) {
        words = place + ", " + sentence;
        cases++;
        try {
            test.run();
        } catch (RuntimeException | StackOverflowError e) {
            wrong++;
            System.out.println(words + ": threw " + e);
        }
    }

    // ---- the objects that a refused call is tried on

    private static PartitionPruner empty() {
        return new PartitionPruner();
    }

    // Ids 0, 2, 3 and 4, of which 2 and 3 have equal keys; partitions from 0, 20 and 100; two terms.
    private static PartitionPruner some() {
        PartitionPruner x = withRows(10, 5, 20, -6, 20, 7, 20, 8, 255, MAX);
        x.delete(1);
        x.split(100);
        x.split(20);
        x.term(0, 25, 6);
        x.term(200, 255, MIN);
        return x;
    }

    // 40 rows, eight partitions and four terms; the keys of ids n and n + 20 are equal. Each number in
    // a term decides over some row, so that a changed one shows.
    private static PartitionPruner crowded() {
        PartitionPruner x = fullOfRows();
        splitAll(x, 1, 40, 80, 120, 160, 200, 247);
        x.term(0, 50, 2000);
        x.term(60, 120, 20000);
        x.term(9, 3, MIN);
        x.term(247, 247, MIN);
        return x;
    }

    private static PartitionPruner fullOfRows() {
        PartitionPruner x = new PartitionPruner();
        for (int id = 0; id < 40; id++) {
            x.insert(id % 20 * 13, id * 1000 + 1);
        }
        return x;
    }

    private static PartitionPruner fullOfPartitions() {
        PartitionPruner x = askedForAll(withRows(10, 5, 40, 6, 246, 7));
        splitAll(x, 1, 40, 80, 120, 160, 200, 247);
        return x;
    }

    private static PartitionPruner fullOfTerms() {
        PartitionPruner x = withRows(10, 5, 10, 6, 20, 7, 30, 8, 40, 9);
        x.split(25);
        x.term(10, 10, 6);
        x.term(20, 20, 7);
        x.term(30, 30, 9);
        x.term(50, 0, MIN);
        return x;
    }

    private static PartitionPruner withRows(int... keysAndValues) {
        PartitionPruner x = new PartitionPruner();
        for (int i = 0; i < keysAndValues.length; i += 2) {
            x.insert(keysAndValues[i], keysAndValues[i + 1]);
        }
        return x;
    }

    private static void splitAll(PartitionPruner x, int... bounds) {
        for (int bound : bounds) {
            x.split(bound);
        }
    }

    private static PartitionPruner asked(PartitionPruner x, int lo, int hi, int least) {
        x.clearTerms();
        x.term(lo, hi, least);
        return x;
    }

    private static PartitionPruner askedForAll(PartitionPruner x) {
        return asked(x, MIN, MAX, MIN);
    }

    // ---- what later calls answer; each probe is used on an object of its own

    private static String partitionsOf(PartitionPruner x) {
        StringBuilder s = new StringBuilder();
        int n = x.partitions();
        for (int i = 0; i < n; i++) {
            s.append(i == 0 ? "" : " ").append(x.bound(i)).append(':').append(x.rowsIn(i));
        }
        return s.toString();
    }

    private static String matchesOf(PartitionPruner x) {
        StringBuilder s = new StringBuilder();
        for (int n = 0; n < 41; n++) {
            int id = x.match(n);
            if (id == NO_ROW) {
                break;
            }
            s.append(n == 0 ? "" : " ").append(id);
        }
        return s.toString();
    }

    private static String stateOf(PartitionPruner x) {
        return partitionsOf(x) + " count " + x.count() + " sum " + x.sum() + " pairs " + x.pairs()
            + " touched " + x.touched() + " match " + matchesOf(x);
    }

    private static String keysOf(PartitionPruner x, int from) {
        StringBuilder s = new StringBuilder();
        for (int key = from; key < from + 64; key++) {
            asked(x, key, key, MIN);
            if (x.count() > 0) {
                s.append(key).append(": match ").append(x.match(0)).append(" sum ").append(x.sum()).append(' ');
            }
        }
        return s.toString();
    }

    private static String laterDeletes(PartitionPruner x) {
        StringBuilder s = new StringBuilder();
        askedForAll(x);
        for (int id = 0; id < 40; id++) {
            s.append(x.delete(id)).append(" sum ").append(x.sum()).append(' ');
        }
        return s.toString();
    }

    private static String laterInserts(PartitionPruner x) {
        StringBuilder s = new StringBuilder();
        for (int n = 0; n < 42; n++) {
            s.append(x.insert(n * 6, n)).append(' ');
        }
        return s + stateOf(askedForAll(x));
    }

    private static String laterUpdates(PartitionPruner x) {
        StringBuilder s = new StringBuilder();
        for (int id = 0; id < 40; id++) {
            s.append(x.update(id, 255 - id, id * id)).append(' ');
        }
        return s + stateOf(askedForAll(x));
    }

    private static String laterTerms(PartitionPruner x) {
        StringBuilder s = new StringBuilder();
        for (int n = 0; n < 6; n++) {
            s.append(x.term(n * 50, n * 50 + 49, 0)).append(" count ").append(x.count()).append(' ');
        }
        return s + matchesOf(x);
    }

    private static String laterSplits(PartitionPruner x) {
        StringBuilder s = new StringBuilder();
        for (int n = 1; n < 20; n++) {
            s.append(x.split(n * 13)).append(' ');
        }
        return s + partitionsOf(x);
    }

    private static String laterMerges(PartitionPruner x) {
        StringBuilder s = new StringBuilder();
        for (int n = 0; n < 9; n++) {
            s.append(x.merge(0)).append(" then ").append(partitionsOf(x)).append(' ');
        }
        return s.toString();
    }

    private static String laterTruncates(PartitionPruner x) {
        StringBuilder s = new StringBuilder();
        for (int i = 8; i >= 0; i--) {
            s.append(x.truncate(i)).append(" count ").append(x.count()).append(' ');
        }
        return s + partitionsOf(x);
    }

    // The questions also stand alone, since one that is asked first could hide what it changes itself.
    private static final Probe[] PROBES = {
        BoundaryTest::stateOf, BoundaryTest::matchesOf, x -> "count " + x.count(), x -> "sum " + x.sum(),
        x -> "pairs " + x.pairs(), x -> "touched " + x.touched(),
        x -> keysOf(x, 0), x -> keysOf(x, 64), x -> keysOf(x, 128), x -> keysOf(x, 192),
        BoundaryTest::laterDeletes, BoundaryTest::laterInserts, BoundaryTest::laterUpdates,
        BoundaryTest::laterTerms, BoundaryTest::laterSplits, BoundaryTest::laterMerges,
        BoundaryTest::laterTruncates,
    };

    // The call answers what is due, and later calls answer as on a twin that never got the call.
    private static void refused(String name, Make make, Call call, int want) {
        for (int p = 0; p < PROBES.length; p++) {
            PartitionPruner x = make.object();
            due(name, call.on(x), want);
            due("after " + name + " the probe number " + p, PROBES[p].of(x), PROBES[p].of(make.object()));
        }
    }

    private static void refusedForEach(String name, Make make, int[] arguments, int want,
            java.util.function.ToIntBiFunction<PartitionPruner, Integer> call) {
        for (int argument : arguments) {
            refused(name + " of " + argument, make, x -> call.applyAsInt(x, argument), want);
        }
    }

    private static void changesNothing(String name, Call call) {
        for (Make make : new Make[] {BoundaryTest::empty, BoundaryTest::some, BoundaryTest::crowded}) {
            int answer = call.on(make.object());
            refused(name, make, call, answer);
            PartitionPruner x = make.object();
            call.on(x);
            due(name + " asked twice", call.on(x), answer);
        }
    }

    // ---- What it is

    private static void whatItIs() {
        String place = "What it is";
        at(place, "at most 40 ROWS", () -> {
            PartitionPruner x = new PartitionPruner();
            for (int id = 0; id < 40; id++) {
                due("insert number " + id, x.insert(7, id), id);
            }
            due("rowsIn(0)", x.rowsIn(0), 40);
            due("insert number 40", x.insert(7, 40), FULL);
            due("rowsIn(0) after it", x.rowsIn(0), 40);
        });
        at(place, "a key (0 to 255)", () -> {
            PartitionPruner x = new PartitionPruner();
            due("insert(0, 1)", x.insert(0, 1), 0);
            due("insert(255, 2)", x.insert(255, 2), 1);
            due("sum of key 0", asked(x, 0, 0, MIN).sum(), 1);
            due("sum of key 255", asked(x, 255, 255, MIN).sum(), 2);
        });
        at(place, "a value (any int)", () -> {
            int[] values = {MIN, MIN + 1, -1, 0, 1, MAX - 1, MAX};
            PartitionPruner x = new PartitionPruner();
            for (int n = 0; n < values.length; n++) {
                due("insert of value " + values[n], x.insert(n, values[n]), n);
                due("sum of value " + values[n], asked(x, n, n, MIN).sum(), values[n]);
                due("update to value " + values[n], x.update(0, 0, values[n]), 0);
                due("sum after update", asked(x, 0, 0, MIN).sum(), values[n]);
            }
        });
        at(place, "at most 512 calls after it has been made", BoundaryTest::lastCalls);
    }

    // 84 rounds of six calls are 504; the eight after them are the last ones that are promised.
    private static void lastCalls() {
        PartitionPruner x = new PartitionPruner();
        for (int round = 0; round < 84; round++) {
            due("insert in round " + round, x.insert(round, round), 0);
            due("split in round " + round, x.split(round + 1), 1);
            due("term in round " + round, x.term(round, round, round), 1);
            due("merge in round " + round, x.merge(0), 1);
            due("delete in round " + round, x.delete(0), 0);
            x.clearTerms();
        }
        due("call 505", x.insert(255, -9), 0);
        due("call 506", x.split(255), 1);
        due("call 507", x.term(255, 255, -9), 1);
        due("call 508", x.touched(), 1);
        due("call 509", x.match(0), 0);
        due("call 510", x.bound(1), 255);
        due("call 511", x.rowsIn(1), 1);
        due("call 512", x.sum(), -9);
    }

    // ---- Terms

    private static void terms() {
        String place = "Terms";
        at(place, "one to eight RANGES of keys that together cover 0 to 255", () -> {
            for (int key = 0; key <= 255; key++) {
                PartitionPruner one = withRows(key, 1);
                due("rowsIn(0) of one for key " + key, one.rowsIn(0), 1);
                PartitionPruner eight = withRows(key, 1);
                splitAll(eight, 1, 2, 100, 101, 200, 254, 255);
                int held = 0;
                for (int i = 0; i < 8; i++) {
                    held += eight.rowsIn(i);
                }
                due("rows in eight partitions for key " + key, held, 1);
            }
        });
        at(place, "from its lower bound to one below the next partition's lower bound", () -> {
            PartitionPruner x = withRows(99, 1, 100, 2, 149, 4, 150, 8);
            splitAll(x, 100, 150);
            due("partitions", partitionsOf(x), "0:1 100:2 150:1");
            due("truncate(1)", x.truncate(1), 2);
            due("rows left", askedForAll(x).sum(), 9);
        });
        at(place, "or to 255 if it is the last one", () -> {
            PartitionPruner x = withRows(254, 1, 255, 2);
            due("one partition", partitionsOf(x), "0:2");
            x.split(254);
            due("the last from 254", partitionsOf(x), "0:0 254:2");
            x.split(255);
            due("the last from 255", partitionsOf(x), "0:0 254:1 255:1");
        });
        at(place, "Every row lies in the partition of its key", () -> {
            PartitionPruner x = withRows(49, 1, 50, 1);
            x.split(50);
            due("after split", partitionsOf(x), "0:1 50:1");
            x.update(0, 50, 1);
            due("after an update over the bound", partitionsOf(x), "0:0 50:2");
            x.update(1, 49, 1);
            due("after an update back over the bound", partitionsOf(x), "0:1 50:1");
            x.split(51);
            x.merge(0);
            due("after split and merge", partitionsOf(x), "0:2 51:0");
        });
        at(place, "up to four TERMS, of which at least one must hold", () -> {
            PartitionPruner x = withRows(1, 1, 2, 2, 3, 4, 4, 8, 5, 16);
            for (int n = 1; n <= 4; n++) {
                due("term number " + n, x.term(n, n, MIN), n);
                due("count() of " + n + " terms", x.count(), n);
                due("sum() of " + n + " terms", x.sum(), (1 << n) - 1);
            }
        });
        at(place, "no terms: no row fulfils it", () -> {
            PartitionPruner x = fullOfRows();
            due("state", stateOf(x), "0:40 count 0 sum 0 pairs 0 touched 0 match ");
        });
        at(place, "holds for a row if lo <= key <= hi", () -> {
            PartitionPruner x = withRows(9, 1, 10, 2, 11, 4);
            due("sum of 10 to 11", asked(x, 10, 11, MIN).sum(), 6);
            due("sum of 9 to 10", asked(x, 9, 10, MIN).sum(), 3);
            due("sum of 10 to 10", asked(x, 10, 10, MIN).sum(), 2);
            due("sum of 12 to 255", asked(x, 12, 255, MIN).sum(), 0);
            due("sum of 0 to 8", asked(x, 0, 8, MIN).sum(), 0);
        });
        at(place, "and value >= least", () -> {
            PartitionPruner x = withRows(1, 5, 1, 6, 1, MIN, 1, MAX);
            due("match of 5", matchesOf(asked(x, 1, 1, 5)), "0 1 3");
            due("match of 6", matchesOf(asked(x, 1, 1, 6)), "1 3");
            due("match of 7", matchesOf(asked(x, 1, 1, 7)), "3");
            due("match of the greatest int", matchesOf(asked(x, 1, 1, MAX)), "3");
            due("match of the smallest int", matchesOf(asked(x, 1, 1, MIN)), "0 1 2 3");
            due("match of one above the smallest int", matchesOf(asked(x, 1, 1, MIN + 1)), "0 1 3");
        });
        at(place, "The calls below change nothing", () -> {
            changesNothing("partitions()", PartitionPruner::partitions);
            changesNothing("count()", PartitionPruner::count);
            changesNothing("sum()", PartitionPruner::sum);
            changesNothing("pairs()", PartitionPruner::pairs);
            changesNothing("touched()", PartitionPruner::touched);
            for (int n : new int[] {MIN, -1, 0, 1, 7, 8, 39, 40, MAX}) {
                changesNothing("bound(" + n + ")", x -> x.bound(n));
                changesNothing("rowsIn(" + n + ")", x -> x.rowsIn(n));
                changesNothing("match(" + n + ")", x -> x.match(n));
            }
        });
    }

    // ---- Promises 1 to 4: the rows

    private static void newObject() {
        String place = "Promise 1";
        at(place, "No rows", () -> {
            due("rowsIn(0)", empty().rowsIn(0), 0);
            due("state with a term", stateOf(askedForAll(empty())), "0:0 count 0 sum 0 pairs 0 touched 0 match ");
            PartitionPruner x = new PartitionPruner();
            for (int id = 0; id < 40; id++) {
                due("delete(" + id + ")", x.delete(id), NO_ROW);
            }
            due("insert(0, 0)", x.insert(0, 0), 0);
            due("a second object's delete(0)", new PartitionPruner().delete(0), NO_ROW);
        });
        at(place, "one partition with lower bound 0", () -> {
            PartitionPruner x = new PartitionPruner();
            due("partitions()", x.partitions(), 1);
            due("bound(0)", x.bound(0), 0);
            due("bound(1)", x.bound(1), NO_PARTITION);
            x.split(9);
            due("a second object's partitions()", new PartitionPruner().partitions(), 1);
        });
        at(place, "no terms", () -> {
            PartitionPruner x = withRows(0, 0, 0, 0);
            due("count()", x.count(), 0);
            due("the first term", x.term(0, 255, MIN), 1);
            due("a second object's first term", new PartitionPruner().term(0, 255, MIN), 1);
        });
    }

    private static void insert() {
        String place = "Promise 2";
        int[] badKeys = {-1, 256, -256, 511, MIN, MAX};
        at(place, "key not in 0 to 255: BAD_KEY; nothing changes then", () -> {
            refusedForEach("insert", BoundaryTest::empty, badKeys, BAD_KEY, (x, key) -> x.insert(key, 3));
            refusedForEach("insert", BoundaryTest::some, badKeys, BAD_KEY, (x, key) -> x.insert(key, 3));
        });
        at(place, "there are 40 rows: FULL; nothing changes then", () -> {
            for (int key : new int[] {0, 13, 100, 255}) {
                refused("insert(" + key + ", 3)", BoundaryTest::crowded, x -> x.insert(key, 3), FULL);
                refused("insert(" + key + ", 3)", BoundaryTest::fullOfRows, x -> x.insert(key, 3), FULL);
            }
        });
        at(place, "there are 40 rows: not with 39", () -> {
            PartitionPruner x = crowded();
            for (int id : new int[] {39, 0, 20}) {
                x.delete(id);
                due("insert with 39 rows", x.insert(1, 1), id);
                due("insert with 40 rows", x.insert(1, 1), FULL);
            }
        });
        at(place, "the smallest id from 0 that no row has", () -> {
            PartitionPruner x = new PartitionPruner();
            due("insert into an empty table", x.insert(5, 0), 0);
            x.insert(5, 1);
            x.insert(5, 2);
            x.insert(5, 3);
            x.delete(2);
            x.delete(0);
            due("insert with 0 and 2 free", x.insert(5, 4), 0);
            due("insert with 2 free", x.insert(5, 5), 2);
            due("insert with none free below 4", x.insert(5, 6), 4);
            x.delete(4);
            due("insert after the greatest id went", x.insert(5, 7), 4);
            due("values", askedForAll(x).sum(), 4 + 1 + 5 + 3 + 7);
        });
        at(place, "the smallest id: ids that truncate freed", () -> {
            PartitionPruner x = withRows(1, 1, 200, 1, 1, 1, 200, 1);
            x.split(100);
            x.truncate(0);
            due("insert with 0 and 2 free", x.insert(200, 1), 0);
            due("insert with 2 free", x.insert(200, 1), 2);
            due("insert with none free below 4", x.insert(200, 1), 4);
        });
    }

    private static void delete() {
        String place = "Promise 3";
        int[] noIds = {MIN, -40, -1, 1, 5, 39, 40, 41, 256, MAX};
        at(place, "No row has this id: NO_ROW, nothing changes", () -> {
            refusedForEach("delete", BoundaryTest::some, noIds, NO_ROW, (x, id) -> x.delete(id));
            refusedForEach("delete", BoundaryTest::empty, new int[] {MIN, -1, 0, 39, 40, MAX}, NO_ROW,
                (x, id) -> x.delete(id));
            refusedForEach("delete", BoundaryTest::crowded, new int[] {MIN, -1, 40, MAX}, NO_ROW,
                (x, id) -> x.delete(id));
        });
        at(place, "No row has this id: a row that truncate took", () -> {
            PartitionPruner x = withRows(1, 1);
            x.truncate(0);
            due("delete(0)", x.delete(0), NO_ROW);
        });
        at(place, "answers how many rows are left", () -> {
            PartitionPruner x = fullOfRows();
            for (int id = 0; id < 20; id++) {
                due("delete(" + id + ")", x.delete(id), 39 - id);
            }
            for (int id = 39; id >= 20; id--) {
                due("delete(" + id + ")", x.delete(id), id - 20);
            }
            due("delete(20) when empty", x.delete(20), NO_ROW);
            due("rowsIn(0)", x.rowsIn(0), 0);
        });
        at(place, "Takes a row out", () -> {
            PartitionPruner x = askedForAll(withRows(5, 1, 5, 2, 5, 4));
            due("delete(1)", x.delete(1), 2);
            due("state", stateOf(x), "0:2 count 2 sum 5 pairs 1 touched 1 match 0 2");
        });
    }

    private static void update() {
        String place = "Promise 4";
        at(place, "No row has this id: NO_ROW; nothing changes then", () -> {
            refusedForEach("update", BoundaryTest::some, new int[] {MIN, -1, 1, 5, 39, 40, MAX}, NO_ROW,
                (x, id) -> x.update(id, 77, 3));
            refusedForEach("update", BoundaryTest::empty, new int[] {MIN, -1, 0, 39, 40, MAX}, NO_ROW,
                (x, id) -> x.update(id, 77, 3));
            refusedForEach("update", BoundaryTest::crowded, new int[] {MIN, -1, 40, MAX}, NO_ROW,
                (x, id) -> x.update(id, 77, 3));
        });
        at(place, "key not in 0 to 255: BAD_KEY; nothing changes then", () -> {
            int[] badKeys = {-1, 256, -256, 511, MIN, MAX};
            refusedForEach("update", BoundaryTest::some, badKeys, BAD_KEY, (x, key) -> x.update(0, key, 3));
            refusedForEach("update", BoundaryTest::some, badKeys, BAD_KEY, (x, key) -> x.update(4, key, 3));
            refusedForEach("update", BoundaryTest::crowded, badKeys, BAD_KEY, (x, key) -> x.update(39, key, 3));
        });
        at(place, "Else answers 0: the edges of key and id", () -> {
            PartitionPruner x = askedForAll(fullOfRows());
            due("update(0, 255, 1)", x.update(0, 255, 1), 0);
            due("update(39, 0, 2)", x.update(39, 0, 2), 0);
            due("match(39)", x.match(39), 0);
            due("match(0)", x.match(0), 20);
            due("match(1)", x.match(1), 39);
            due("rowsIn(0)", x.rowsIn(0), 40);
            due("insert after it", x.insert(0, 0), FULL);
        });
        at(place, "Gives a row a new key and value: the same ones", () -> {
            PartitionPruner x = askedForAll(withRows(5, 1, 5, 2));
            due("update(0, 5, 1)", x.update(0, 5, 1), 0);
            due("state", stateOf(x), "0:2 count 2 sum 3 pairs 1 touched 1 match 0 1");
        });
    }

    // ---- Promises 5 to 7: the partitions

    private static void split() {
        String place = "Promise 5";
        at(place, "key not in 1 to 255: BAD_BOUND; nothing changes then", () -> {
            int[] badKeys = {0, -1, 256, 257, MIN, MAX};
            refusedForEach("split", BoundaryTest::empty, badKeys, BAD_BOUND, (x, key) -> x.split(key));
            refusedForEach("split", BoundaryTest::some, badKeys, BAD_BOUND, (x, key) -> x.split(key));
        });
        at(place, "already a lower bound: BAD_BOUND; nothing changes then", () ->
            refusedForEach("split", BoundaryTest::some, new int[] {20, 100}, BAD_BOUND, (x, key) -> x.split(key)));
        at(place, "there are eight partitions: FULL; nothing changes then", () -> {
            int[] freeKeys = {2, 39, 41, 130, 246, 248, 255};
            refusedForEach("split", BoundaryTest::crowded, freeKeys, FULL, (x, key) -> x.split(key));
            refusedForEach("split", BoundaryTest::fullOfPartitions, freeKeys, FULL, (x, key) -> x.split(key));
        });
        at(place, "there are eight partitions: not with seven", () -> {
            PartitionPruner x = new PartitionPruner();
            for (int n = 1; n <= 7; n++) {
                due("split with " + n, x.split(n * 30), n);
            }
            due("split with eight", x.split(5), FULL);
            due("merge(6)", x.merge(6), 0);
            due("split with seven", x.split(5), 1);
            due("split with eight again", x.split(6), FULL);
        });
        at(place, "one has the lower bound 'key': 1 and 255", () -> {
            PartitionPruner x = withRows(0, 1, 1, 1, 254, 1, 255, 1);
            due("split(1)", x.split(1), 1);
            due("split(255)", x.split(255), 2);
            due("partitions", partitionsOf(x), "0:1 1:2 255:1");
        });
        at(place, "answers the new partition's number", () -> {
            PartitionPruner x = new PartitionPruner();
            due("split(100)", x.split(100), 1);
            due("split(99), next below", x.split(99), 1);
            due("split(101), next above", x.split(101), 3);
            due("split(255), the last", x.split(255), 4);
            due("split(1), the first", x.split(1), 1);
            due("split(50)", x.split(50), 2);
            due("split(200)", x.split(200), 6);
            due("partitions", partitionsOf(x), "0:0 1:0 50:0 99:0 100:0 101:0 200:0 255:0");
        });
        at(place, "already a lower bound: no longer after a merge", () -> {
            PartitionPruner x = new PartitionPruner();
            x.split(100);
            x.merge(0);
            due("split(100)", x.split(100), 1);
        });
    }

    private static void merge() {
        String place = "Promise 6";
        at(place, "There are not both: NO_PARTITION, nothing changes", () -> {
            refusedForEach("merge", BoundaryTest::empty, new int[] {MIN, -1, 0, 1, 7, MAX}, NO_PARTITION,
                (x, i) -> x.merge(i));
            refusedForEach("merge", BoundaryTest::some, new int[] {MIN, -2, -1, 2, 3, 7, 8, MAX - 1, MAX},
                NO_PARTITION, (x, i) -> x.merge(i));
            refusedForEach("merge", BoundaryTest::crowded, new int[] {MIN, -1, 7, 8, 9, MAX - 1, MAX},
                NO_PARTITION, (x, i) -> x.merge(i));
        });
        at(place, "Unites partition number i with number i + 1: the first and the last pair", () -> {
            PartitionPruner x = crowded();
            due("merge(6)", x.merge(6), 8);
            due("merge(0)", x.merge(0), 8);
            due("partitions", partitionsOf(x), "0:8 40:6 80:6 120:6 160:6 200:8");
        });
        at(place, "answers how many rows the united partition has: none, from one side, all", () -> {
            PartitionPruner x = withRows(120, 1, 120, 1);
            splitAll(x, 50, 100, 150);
            due("merge(0) of two empty ones", x.merge(0), 0);
            due("merge(0) with rows above", x.merge(0), 2);
            due("merge(0) with rows below", x.merge(0), 2);
            PartitionPruner full = fullOfRows();
            full.split(128);
            due("merge(0) of 40 rows", full.merge(0), 40);
            due("merge(0) of one partition", full.merge(0), NO_PARTITION);
        });
    }

    private static void truncate() {
        String place = "Promise 7";
        at(place, "No such partition: NO_PARTITION, nothing changes", () -> {
            refusedForEach("truncate", BoundaryTest::empty, new int[] {MIN, -1, 1, 7, 8, MAX}, NO_PARTITION,
                (x, i) -> x.truncate(i));
            refusedForEach("truncate", BoundaryTest::some, new int[] {MIN, -1, 3, 7, 8, MAX}, NO_PARTITION,
                (x, i) -> x.truncate(i));
            refusedForEach("truncate", BoundaryTest::crowded, new int[] {MIN, -1, 8, 9, 40, MAX}, NO_PARTITION,
                (x, i) -> x.truncate(i));
        });
        at(place, "No such partition: one that a merge took", () -> {
            PartitionPruner x = some();
            x.merge(1);
            due("truncate(2)", x.truncate(2), NO_PARTITION);
            due("partitions", partitionsOf(x), "0:1 20:3");
        });
        at(place, "Drops all rows of partition number i: no other row", () -> {
            PartitionPruner x = crowded();
            due("truncate(0)", x.truncate(0), 2);
            due("truncate(7)", x.truncate(7), 2);
            due("truncate(3)", x.truncate(3), 6);
            due("partitions", partitionsOf(x), "0:0 1:6 40:6 80:0 120:6 160:6 200:6 247:0");
        });
        at(place, "its range stays", () -> {
            PartitionPruner x = some();
            x.truncate(1);
            due("partitions", partitionsOf(x), "0:1 20:0 100:1");
            due("split(20)", x.split(20), BAD_BOUND);
            x.insert(99, 1);
            due("partitions after insert", partitionsOf(x), "0:1 20:1 100:1");
        });
        at(place, "answers how many rows went: none and all", () -> {
            due("truncate(0) of an empty table", empty().truncate(0), 0);
            PartitionPruner x = fullOfRows();
            due("truncate(0) of 40 rows", x.truncate(0), 40);
            due("truncate(0) again", x.truncate(0), 0);
            due("rowsIn(0)", x.rowsIn(0), 0);
            due("insert(0, 0)", x.insert(0, 0), 0);
        });
    }

    // ---- Promises 8 and 9: the query

    private static void clearTerms() {
        String place = "Promise 8";
        at(place, "Forgets all terms: four of them", () -> {
            PartitionPruner x = crowded();
            x.clearTerms();
            due("count()", x.count(), 0);
            for (int n = 1; n <= 4; n++) {
                due("term number " + n, x.term(1, 0, 0), n);
                due("count() of terms that never hold", x.count(), 0);
            }
            due("term number 5", x.term(0, 255, MIN), FULL);
        });
        at(place, "Forgets all terms: none of them", () -> {
            PartitionPruner x = withRows(1, 1);
            x.clearTerms();
            x.clearTerms();
            due("the first term", x.term(1, 1, 1), 1);
            due("count()", x.count(), 1);
        });
        at(place, "Forgets all terms: rows and partitions stay", () -> {
            PartitionPruner x = some();
            x.clearTerms();
            due("state", stateOf(x), "0:1 20:2 100:1 count 0 sum 0 pairs 0 touched 0 match ");
            due("match of all", matchesOf(askedForAll(x)), "0 2 3 4");
        });
    }

    private static void term() {
        String place = "Promise 9";
        at(place, "any ints", () -> {
            PartitionPruner x = withRows(0, MIN, 128, 0, 255, MAX);
            due("count of all ints", asked(x, MIN, MAX, MIN).count(), 3);
            due("count up to -1", asked(x, MIN, -1, MIN).count(), 0);
            due("count up to 0", asked(x, MIN, 0, MIN).count(), 1);
            due("count from 255", asked(x, 255, MAX, MIN).count(), 1);
            due("count from 256", asked(x, 256, MAX, MIN).count(), 0);
            due("count from the greatest int", asked(x, MAX, MAX, MIN).count(), 0);
            due("count of the greatest least", asked(x, MIN, MAX, MAX).count(), 1);
        });
        at(place, "lo > hi is a term that never holds", () -> {
            PartitionPruner x = fullOfRows();
            int[][] ranges = {{14, 13}, {1, 0}, {0, -1}, {255, 0}, {256, 255}, {MAX, MIN}, {0, MIN}, {MAX, 255}};
            for (int[] range : ranges) {
                due("count of " + range[0] + " to " + range[1], asked(x, range[0], range[1], MIN).count(), 0);
            }
        });
        at(place, "lo > hi is a term: it is one of the four", () -> {
            PartitionPruner x = new PartitionPruner();
            for (int n = 1; n <= 4; n++) {
                due("term number " + n, x.term(MAX, MIN, MIN), n);
            }
            due("term number 5", x.term(MAX, MIN, MIN), FULL);
        });
        at(place, "There are four: FULL, nothing changes", () -> {
            int[][] terms = {{0, 255, MIN}, {1, 0, 0}, {MIN, MAX, MIN}, {MAX, MIN, MAX}, {13, 13, 1001}};
            for (int[] t : terms) {
                String name = "term(" + t[0] + ", " + t[1] + ", " + t[2] + ")";
                refused(name, BoundaryTest::crowded, x -> x.term(t[0], t[1], t[2]), FULL);
                refused(name, BoundaryTest::fullOfTerms, x -> x.term(t[0], t[1], t[2]), FULL);
            }
        });
        at(place, "Else answers how many terms there are: equal ones too", () -> {
            PartitionPruner x = withRows(1, 1);
            for (int n = 1; n <= 4; n++) {
                due("term number " + n, x.term(1, 1, 1), n);
            }
            due("count()", x.count(), 1);
        });
    }

    // ---- Promises 10 to 12: what the partitions are

    private static void partitions() {
        String place = "Promise 10";
        at(place, "How many partitions there are: one to eight", () -> {
            PartitionPruner x = new PartitionPruner();
            due("partitions() of a new object", x.partitions(), 1);
            for (int n = 2; n <= 8; n++) {
                x.split(n);
                due("partitions()", x.partitions(), n);
            }
            x.split(9);
            due("partitions() after a refused split", x.partitions(), 8);
            for (int n = 7; n >= 1; n--) {
                x.merge(n - 1);
                due("partitions()", x.partitions(), n);
            }
            x.merge(0);
            due("partitions() after a refused merge", x.partitions(), 1);
        });
    }

    private static void bound() {
        String place = "Promise 11";
        at(place, "The lower bound of partition number i: the first and the last", () -> {
            due("bound(0) of one", empty().bound(0), 0);
            due("bound(0) of eight", crowded().bound(0), 0);
            due("bound(1) of eight", crowded().bound(1), 1);
            due("bound(7) of eight", crowded().bound(7), 247);
        });
        at(place, "NO_PARTITION", () -> {
            for (int i : new int[] {MIN, -1, 8, 9, 247, MAX}) {
                due("bound(" + i + ") of one", empty().bound(i), NO_PARTITION);
                due("bound(" + i + ") of three", some().bound(i), NO_PARTITION);
                due("bound(" + i + ") of eight", crowded().bound(i), NO_PARTITION);
            }
            due("bound(1) of one", empty().bound(1), NO_PARTITION);
            due("bound(3) of three", some().bound(3), NO_PARTITION);
            PartitionPruner x = crowded();
            x.merge(2);
            due("bound(7) after a merge", x.bound(7), NO_PARTITION);
        });
    }

    private static void rowsIn() {
        String place = "Promise 12";
        at(place, "How many rows partition number i holds: none and all", () -> {
            due("rowsIn(0) of an empty table", empty().rowsIn(0), 0);
            PartitionPruner x = fullOfRows();
            due("rowsIn(0) of 40", x.rowsIn(0), 40);
            x.split(248);
            due("rowsIn(0) below the bound", x.rowsIn(0), 40);
            due("rowsIn(1) above all rows", x.rowsIn(1), 0);
        });
        at(place, "NO_PARTITION", () -> {
            for (int i : new int[] {MIN, -1, 8, 9, 39, MAX}) {
                due("rowsIn(" + i + ") of one", empty().rowsIn(i), NO_PARTITION);
                due("rowsIn(" + i + ") of three", some().rowsIn(i), NO_PARTITION);
                due("rowsIn(" + i + ") of eight", crowded().rowsIn(i), NO_PARTITION);
            }
            due("rowsIn(1) of one", empty().rowsIn(1), NO_PARTITION);
            due("rowsIn(3) of three", some().rowsIn(3), NO_PARTITION);
            PartitionPruner x = crowded();
            x.merge(2);
            due("rowsIn(7) after a merge", x.rowsIn(7), NO_PARTITION);
        });
    }

    // ---- Promises 13 to 17: what the query finds

    private static void count() {
        String place = "Promise 13";
        at(place, "How many rows fulfil the query: none, one and all", () -> {
            due("count() of an empty table", askedForAll(empty()).count(), 0);
            due("count() without terms", fullOfRows().count(), 0);
            due("count() of one", asked(fullOfRows(), 0, 255, 39001).count(), 1);
            due("count() of none", asked(fullOfRows(), 0, 255, 39002).count(), 0);
            due("count() of 40", askedForAll(fullOfRows()).count(), 40);
        });
        at(place, "How many rows fulfil the query: a row for which four terms hold is one", () -> {
            PartitionPruner x = askedForAll(fullOfRows());
            x.term(0, 255, 0);
            x.term(0, 255, MIN);
            x.term(0, 247, 1);
            due("count()", x.count(), 40);
        });
    }

    private static void sum() {
        String place = "Promise 14";
        at(place, "The sum: of no rows", () -> {
            due("sum() of an empty table", askedForAll(empty()).sum(), 0);
            due("sum() without terms", withRows(1, 5).sum(), 0);
            due("sum() where no term holds", asked(withRows(1, 5), 1, 1, 6).sum(), 0);
        });
        at(place, "wrapping", () -> {
            due("the greatest int and 1", askedForAll(withRows(1, MAX, 1, 1)).sum(), MIN);
            due("the smallest int and -1", askedForAll(withRows(1, MIN, 1, -1)).sum(), MAX);
            due("the smallest int twice", askedForAll(withRows(1, MIN, 1, MIN)).sum(), 0);
            due("the greatest int twice", askedForAll(withRows(1, MAX, 1, MAX)).sum(), -2);
            due("wrapping and back", askedForAll(withRows(1, MAX, 1, 1, 1, -1)).sum(), MAX);
        });
        at(place, "wrapping: 40 rows", () -> {
            PartitionPruner greatest = new PartitionPruner();
            PartitionPruner smallest = new PartitionPruner();
            for (int n = 0; n < 40; n++) {
                greatest.insert(n, MAX);
                smallest.insert(n, n == 0 ? MIN + 1 : MIN);
            }
            due("40 of the greatest int", askedForAll(greatest).sum(), -40);
            due("40 of the smallest int, one of them 1 more", askedForAll(smallest).sum(), 1);
        });
        at(place, "the rows that fulfil the query: each once", () -> {
            PartitionPruner x = askedForAll(withRows(1, 5, 2, 7));
            x.term(1, 1, 5);
            due("sum()", x.sum(), 12);
        });
    }

    private static void match() {
        String place = "Promise 15";
        at(place, "NO_ROW if there is none", () -> {
            for (int n : new int[] {MIN, -1, 40, 41, MAX}) {
                due("match(" + n + ") of 40", askedForAll(fullOfRows()).match(n), NO_ROW);
                due("match(" + n + ") of none", askedForAll(empty()).match(n), NO_ROW);
            }
            due("match(0) of an empty table", askedForAll(empty()).match(0), NO_ROW);
            due("match(0) without terms", fullOfRows().match(0), NO_ROW);
            due("match(0) where no term holds", asked(fullOfRows(), 1, 0, MIN).match(0), NO_ROW);
            due("match(1) of one", askedForAll(withRows(1, 1)).match(1), NO_ROW);
            due("match(2) of two out of 40", asked(fullOfRows(), 13, 13, MIN).match(2), NO_ROW);
        });
        at(place, "the row number n, from 0: the first and the last", () -> {
            due("match(0) of one", askedForAll(withRows(1, 1)).match(0), 0);
            due("match(0) of 40", askedForAll(fullOfRows()).match(0), 0);
            due("match(39) of 40", askedForAll(fullOfRows()).match(39), 39);
            due("match(1) of two out of 40", asked(fullOfRows(), 13, 13, MIN).match(1), 21);
        });
        at(place, "ordered by key", () -> {
            PartitionPruner x = askedForAll(withRows(255, 1, 0, 9, 128, 5, 127, 6));
            due("match", matchesOf(x), "1 3 2 0");
        });
        at(place, "of equal keys, by id", () -> {
            PartitionPruner x = withRows(5, 9, 5, 8, 5, 7, 4, 0);
            x.delete(0);
            x.insert(5, -1);
            due("match", matchesOf(askedForAll(x)), "3 0 1 2");
            PartitionPruner same = new PartitionPruner();
            for (int id = 0; id < 40; id++) {
                same.insert(255, -id);
            }
            askedForAll(same);
            for (int n = 0; n < 40; n++) {
                due("match(" + n + ") of 40 equal keys", same.match(n), n);
            }
        });
        at(place, "among those that fulfil the query", () -> {
            PartitionPruner x = asked(withRows(1, 0, 2, 5, 3, 0, 4, 5), 0, 255, 5);
            due("match", matchesOf(x), "1 3");
        });
    }

    private static void pairs() {
        String place = "Promise 16";
        at(place, "How many pairs: none", () -> {
            due("pairs() of an empty table", askedForAll(empty()).pairs(), 0);
            due("pairs() of one row", askedForAll(withRows(1, 1)).pairs(), 0);
            due("pairs() without terms", withRows(1, 1, 1, 1).pairs(), 0);
            due("pairs() of neighbouring keys", askedForAll(withRows(1, 1, 2, 1, 0, 1)).pairs(), 0);
        });
        at(place, "x's id smaller than y's: a pair is one, and no row pairs with itself", () -> {
            due("pairs() of two", askedForAll(withRows(1, 1, 1, 1)).pairs(), 1);
            due("pairs() of three", askedForAll(withRows(1, 1, 1, 1, 1, 1)).pairs(), 3);
        });
        at(place, "How many pairs: all of 40 rows", () -> {
            PartitionPruner x = new PartitionPruner();
            for (int id = 0; id < 40; id++) {
                x.insert(0, id);
            }
            due("pairs()", askedForAll(x).pairs(), 780);
            due("pairs() of twenty keys", askedForAll(fullOfRows()).pairs(), 20);
        });
        at(place, "both fulfil the query", () -> {
            PartitionPruner x = withRows(1, 5, 1, 6, 1, 7);
            due("pairs() of two that fulfil it", asked(x, 1, 1, 6).pairs(), 1);
            due("pairs() of one that fulfils it", asked(x, 1, 1, 7).pairs(), 0);
        });
        at(place, "both fulfil the query: by different terms", () -> {
            PartitionPruner x = asked(withRows(1, 5, 1, 6), 1, 1, 6);
            x.term(0, 1, 5);
            due("pairs()", x.pairs(), 1);
        });
        at(place, "of rows: a row that went has no pair", () -> {
            PartitionPruner x = askedForAll(withRows(0, 0, 0, 0, 1, 0));
            x.delete(0);
            due("pairs()", x.pairs(), 0);
            x.insert(0, 0);
            due("pairs() after insert", x.pairs(), 1);
        });
    }

    private static void touched() {
        String place = "Promise 17";
        at(place, "How many partitions: none", () -> {
            due("touched() of an empty table", askedForAll(empty()).touched(), 0);
            PartitionPruner x = crowded();
            x.clearTerms();
            due("touched() without terms", x.touched(), 0);
            due("touched() where no term holds", asked(x, 2, 1, MIN).touched(), 0);
            due("touched() of a range without rows", asked(x, 248, 255, MIN).touched(), 0);
        });
        at(place, "How many partitions: all eight", () -> {
            due("touched()", askedForAll(crowded()).touched(), 8);
        });
        at(place, "at least one row that fulfils the query: the edges of a partition", () -> {
            PartitionPruner x = withRows(99, 1, 100, 1);
            x.split(100);
            due("touched() of 99", asked(x, 99, 99, MIN).touched(), 1);
            due("touched() of 99 to 100", asked(x, 99, 100, MIN).touched(), 2);
            due("touched() of 100", asked(x, 100, 100, MIN).touched(), 1);
        });
        at(place, "at least one row that fulfils the query: a range that meets it isn't enough", () -> {
            PartitionPruner x = withRows(99, 1, 100, 0);
            splitAll(x, 100, 200);
            due("touched()", asked(x, 0, 255, 1).touched(), 1);
        });
        at(place, "at least one row: one that went is none", () -> {
            PartitionPruner x = askedForAll(withRows(0, 0, 100, 0));
            x.split(100);
            x.delete(0);
            due("touched() after delete", x.touched(), 1);
            x.truncate(1);
            due("touched() after truncate", x.touched(), 0);
        });
    }

    // ---- Promise 18

    private static void order() {
        String place = "Promise 18";
        at(place, "insert: BAD_KEY is tested before FULL", () ->
            refusedForEach("insert", BoundaryTest::crowded, new int[] {MIN, -1, 256, MAX}, BAD_KEY,
                (x, key) -> x.insert(key, 3)));
        at(place, "update: NO_ROW is tested before BAD_KEY", () -> {
            int[] badKeys = {MIN, -1, 256, MAX};
            for (int id : new int[] {MIN, -1, 1, 39, 40, MAX}) {
                refusedForEach("update(" + id + ")", BoundaryTest::some, badKeys, NO_ROW,
                    (x, key) -> x.update(id, key, 3));
            }
        });
        at(place, "split: BAD_BOUND is tested before FULL", () -> {
            refusedForEach("split", BoundaryTest::crowded, new int[] {MIN, -1, 0, 256, MAX}, BAD_BOUND,
                (x, key) -> x.split(key));
            refusedForEach("split", BoundaryTest::crowded, new int[] {1, 40, 80, 120, 160, 200, 247}, BAD_BOUND,
                (x, key) -> x.split(key));
        });
    }

    public static void main(String[] args) {
        whatItIs();
        terms();
        newObject();
        insert();
        delete();
        update();
        split();
        merge();
        truncate();
        clearTerms();
        term();
        partitions();
        bound();
        rowsIn();
        count();
        sum();
        match();
        pairs();
        touched();
        order();
        System.out.println(cases + " boundary cases, " + wrong + " answers not as due");
        if (wrong != 0) {
            System.exit(1);
        }
    }
}
