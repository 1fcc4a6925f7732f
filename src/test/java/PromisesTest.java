// Each promise of the document in turn: ordinary inputs, the edges it names, and wrong inputs.
// No object here gets more than the 512 calls for which the document speaks.
public final class PromisesTest {
    private static final int MIN = Integer.MIN_VALUE;
    private static final int MAX = Integer.MAX_VALUE;
    private static final int BAD_KEY = -1;
    private static final int FULL = -2;
    private static final int NO_ROW = -3;
    private static final int BAD_BOUND = -4;
    private static final int NO_PARTITION = -5;

    private static int wrong = 0;
    private static int promise = 0;

    private static void due(String call, Object got, Object want) {
        if (!want.equals(got)) {
            wrong++;
            System.out.println("promise " + promise + ": " + call + " answered " + got + ", due is " + want);
        }
    }

    // All that the calls which change nothing tell of an object.
    private static String seen(PartitionPruner x) {
        StringBuilder s = new StringBuilder();
        for (int i = 0; i < x.partitions(); i++) {
            s.append(x.bound(i)).append(':').append(x.rowsIn(i)).append(' ');
        }
        s.append("count ").append(x.count()).append(" sum ").append(x.sum());
        s.append(" pairs ").append(x.pairs()).append(" touched ").append(x.touched());
        s.append(" match").append(matches(x));
        return s.toString();
    }

    private static String matches(PartitionPruner x) {
        StringBuilder s = new StringBuilder();
        for (int n = 0; n <= 40; n++) {
            int id = x.match(n);
            if (id == NO_ROW) {
                break;
            }
            s.append(' ').append(id);
        }
        return s.toString();
    }

    private static PartitionPruner withRows(int... keysAndValues) {
        PartitionPruner x = new PartitionPruner();
        for (int i = 0; i < keysAndValues.length; i += 2) {
            due("insert", x.insert(keysAndValues[i], keysAndValues[i + 1]), i / 2);
        }
        return x;
    }

    private static PartitionPruner withBounds(int... bounds) {
        PartitionPruner x = new PartitionPruner();
        split(x, bounds);
        return x;
    }

    private static void split(PartitionPruner x, int... bounds) {
        for (int i = 0; i < bounds.length; i++) {
            due("split(" + bounds[i] + ")", x.split(bounds[i]), i + 1);
        }
    }

    private static void seeAllRows(PartitionPruner x) {
        x.clearTerms();
        due("term of all rows", x.term(0, 255, MIN), 1);
    }

    private static PartitionPruner fullTable() {
        PartitionPruner x = new PartitionPruner();
        for (int id = 0; id < 40; id++) {
            due("insert number " + id, x.insert(id * 6, id), id);
        }
        return x;
    }

    private static void newObject() {
        PartitionPruner x = new PartitionPruner();
        due("partitions()", x.partitions(), 1);
        due("bound(0)", x.bound(0), 0);
        due("bound(1)", x.bound(1), NO_PARTITION);
        due("rowsIn(0)", x.rowsIn(0), 0);
        due("count()", x.count(), 0);
        due("sum()", x.sum(), 0);
        due("match(0)", x.match(0), NO_ROW);
        due("pairs()", x.pairs(), 0);
        due("touched()", x.touched(), 0);
        due("delete(0)", x.delete(0), NO_ROW);
        due("first term", x.term(0, 255, MIN), 1);
        due("count() with a term for all", x.count(), 0);
        due("first insert", x.insert(0, 0), 0);
        PartitionPruner other = new PartitionPruner();
        due("a second object's state", seen(other), "0:0 count 0 sum 0 pairs 0 touched 0 match");
        due("a second object's first term", other.term(1, 1, 1), 1);
        due("a second object's first insert", other.insert(1, 1), 0);
        due("the first object's count()", x.count(), 1);
    }

    private static void insert() {
        PartitionPruner x = withRows(0, 5, 255, MIN, 100, MAX, 100, 0);
        seeAllRows(x);
        String before = seen(x);
        due("seen", before, "0:4 count 4 sum 4 pairs 1 touched 1 match 0 2 3 1");
        due("insert(-1, 0)", x.insert(-1, 0), BAD_KEY);
        due("insert(256, 0)", x.insert(256, 0), BAD_KEY);
        due("insert(MIN, 0)", x.insert(MIN, 0), BAD_KEY);
        due("insert(MAX, 0)", x.insert(MAX, 0), BAD_KEY);
        due("seen after bad keys", seen(x), before);
        due("delete(1)", x.delete(1), 3);
        due("delete(0)", x.delete(0), 2);
        due("insert takes the smallest free id", x.insert(7, 1), 0);
        due("insert takes the next free id", x.insert(8, 1), 1);
        due("insert goes on behind the last id", x.insert(9, 1), 4);
        due("order", matches(x), " 0 1 4 2 3");
        insertIntoFull();
    }

    private static void insertIntoFull() {
        PartitionPruner x = fullTable();
        seeAllRows(x);
        due("rowsIn(0) of 40 rows", x.rowsIn(0), 40);
        due("count() of 40 rows", x.count(), 40);
        due("sum() of 40 rows", x.sum(), 780);
        String before = seen(x);
        due("insert number 41", x.insert(3, 3), FULL);
        due("seen after FULL", seen(x), before);
        due("delete(39)", x.delete(39), 39);
        due("insert after a delete", x.insert(3, 3), 39);
        due("insert when full again", x.insert(3, 3), FULL);
        due("delete(17)", x.delete(17), 39);
        due("insert into the gap", x.insert(255, 9), 17);
    }

    private static void delete() {
        PartitionPruner x = withRows(5, 10, 5, 20, 6, 40);
        split(x, 6);
        seeAllRows(x);
        String before = seen(x);
        due("delete(3)", x.delete(3), NO_ROW);
        due("delete(-1)", x.delete(-1), NO_ROW);
        due("delete(39)", x.delete(39), NO_ROW);
        due("delete(40)", x.delete(40), NO_ROW);
        due("delete(MIN)", x.delete(MIN), NO_ROW);
        due("delete(MAX)", x.delete(MAX), NO_ROW);
        due("seen after NO_ROW", seen(x), before);
        due("delete(1)", x.delete(1), 2);
        due("seen after delete", seen(x), "0:1 6:1 count 2 sum 50 pairs 0 touched 2 match 0 2");
        due("delete(1) again", x.delete(1), NO_ROW);
        due("delete(2)", x.delete(2), 1);
        due("delete(0)", x.delete(0), 0);
        due("delete(0) again", x.delete(0), NO_ROW);
        due("seen when empty", seen(x), "0:0 6:0 count 0 sum 0 pairs 0 touched 0 match");
        PartitionPruner full = fullTable();
        due("delete of the last id", full.delete(39), 39);
        due("delete of the first id", full.delete(0), 38);
    }

    private static void update() {
        PartitionPruner x = withRows(10, 1, 20, 2, 30, 4);
        split(x, 15, 25);
        seeAllRows(x);
        due("update(0, 30, 8)", x.update(0, 30, 8), 0);
        due("seen after update", seen(x), "0:0 15:1 25:2 count 3 sum 14 pairs 1 touched 2 match 1 0 2");
        due("update of the value alone", x.update(2, 30, -4), 0);
        due("sum()", x.sum(), 6);
        due("update(1, 0, MIN)", x.update(1, 0, MIN), 0);
        due("update(2, 255, MAX)", x.update(2, 255, MAX), 0);
        String before = seen(x);
        due("seen at the edges", before, "0:1 15:0 25:2 count 3 sum 7 pairs 0 touched 2 match 1 0 2");
        due("update(3, 1, 1)", x.update(3, 1, 1), NO_ROW);
        due("update(-1, 1, 1)", x.update(-1, 1, 1), NO_ROW);
        due("update(40, 1, 1)", x.update(40, 1, 1), NO_ROW);
        due("update(MIN, 1, 1)", x.update(MIN, 1, 1), NO_ROW);
        due("update(MAX, 1, 1)", x.update(MAX, 1, 1), NO_ROW);
        due("update(0, -1, 99)", x.update(0, -1, 99), BAD_KEY);
        due("update(0, 256, 99)", x.update(0, 256, 99), BAD_KEY);
        due("update(0, MIN, 99)", x.update(0, MIN, 99), BAD_KEY);
        due("update(0, MAX, 99)", x.update(0, MAX, 99), BAD_KEY);
        due("seen after wrong inputs", seen(x), before);
        due("delete(0)", x.delete(0), 2);
        due("update of a row that went", x.update(0, 1, 1), NO_ROW);
        due("insert gets the id that went", x.insert(1, 1), 0);
        PartitionPruner full = fullTable();
        due("update in a full table", full.update(39, 0, 0), 0);
    }

    private static void splitPromise() {
        PartitionPruner x = withRows(0, 1, 1, 1, 99, 1, 100, 1, 254, 1, 255, 1);
        due("split(0)", x.split(0), BAD_BOUND);
        due("split(-1)", x.split(-1), BAD_BOUND);
        due("split(256)", x.split(256), BAD_BOUND);
        due("split(MIN)", x.split(MIN), BAD_BOUND);
        due("split(MAX)", x.split(MAX), BAD_BOUND);
        due("partitions() after bad bounds", x.partitions(), 1);
        due("split(100)", x.split(100), 1);
        due("seen", seen(x), "0:3 100:3 count 0 sum 0 pairs 0 touched 0 match");
        due("split(100) again", x.split(100), BAD_BOUND);
        due("split(1)", x.split(1), 1);
        due("split(255)", x.split(255), 3);
        due("seen", seen(x), "0:1 1:2 100:2 255:1 count 0 sum 0 pairs 0 touched 0 match");
        due("split(1) again", x.split(1), BAD_BOUND);
        due("split(255) again", x.split(255), BAD_BOUND);
        due("split(0) again", x.split(0), BAD_BOUND);
        due("split(50)", x.split(50), 2);
        due("split(2)", x.split(2), 2);
        due("split(254)", x.split(254), 5);
        due("split(101)", x.split(101), 5);
        String before = seen(x);
        due("seen with eight", before,
            "0:1 1:1 2:0 50:1 100:1 101:0 254:1 255:1 count 0 sum 0 pairs 0 touched 0 match");
        due("split(200) with eight", x.split(200), FULL);
        due("seen after FULL", seen(x), before);
        due("merge(6)", x.merge(6), 2);
        due("split(253) after a merge", x.split(253), 6);
        due("split(252) with eight again", x.split(252), FULL);
    }

    private static void merge() {
        PartitionPruner x = withRows(5, 1, 15, 2, 16, 4, 25, 8);
        due("merge(0) with one partition", x.merge(0), NO_PARTITION);
        split(x, 10, 20, 30);
        String before = seen(x);
        due("merge(3), the last", x.merge(3), NO_PARTITION);
        due("merge(4)", x.merge(4), NO_PARTITION);
        due("merge(-1)", x.merge(-1), NO_PARTITION);
        due("merge(-2)", x.merge(-2), NO_PARTITION);
        due("merge(MIN)", x.merge(MIN), NO_PARTITION);
        due("merge(MAX)", x.merge(MAX), NO_PARTITION);
        due("seen after NO_PARTITION", seen(x), before);
        due("merge(1)", x.merge(1), 3);
        due("seen after merge", seen(x), "0:1 10:3 30:0 count 0 sum 0 pairs 0 touched 0 match");
        due("split(20) after it went", x.split(20), 2);
        due("merge(0)", x.merge(0), 3);
        due("merge(1)", x.merge(1), 1);
        due("merge(0)", x.merge(0), 4);
        due("seen with one", seen(x), "0:4 count 0 sum 0 pairs 0 touched 0 match");
        due("merge(0) with one again", x.merge(0), NO_PARTITION);
        mergeOfEight();
    }

    private static void mergeOfEight() {
        PartitionPruner x = withBounds(30, 60, 90, 120, 150, 180, 210);
        due("merge(7) of eight", x.merge(7), NO_PARTITION);
        due("merge(6) of eight", x.merge(6), 0);
        due("bound(6)", x.bound(6), 180);
        due("bound(7)", x.bound(7), NO_PARTITION);
        due("merge(0) of seven", x.merge(0), 0);
        due("bound(0)", x.bound(0), 0);
        due("bound(1)", x.bound(1), 60);
        due("bound(5)", x.bound(5), 180);
        due("partitions()", x.partitions(), 6);
    }

    private static void truncate() {
        PartitionPruner x = withRows(9, 1, 10, 2, 19, 4, 20, 8, 255, 16);
        split(x, 10, 20);
        seeAllRows(x);
        String before = seen(x);
        due("truncate(3)", x.truncate(3), NO_PARTITION);
        due("truncate(7)", x.truncate(7), NO_PARTITION);
        due("truncate(8)", x.truncate(8), NO_PARTITION);
        due("truncate(-1)", x.truncate(-1), NO_PARTITION);
        due("truncate(MIN)", x.truncate(MIN), NO_PARTITION);
        due("truncate(MAX)", x.truncate(MAX), NO_PARTITION);
        due("seen after NO_PARTITION", seen(x), before);
        due("truncate(1)", x.truncate(1), 2);
        due("seen after truncate", seen(x), "0:1 10:0 20:2 count 3 sum 25 pairs 0 touched 2 match 0 3 4");
        due("truncate(1) again", x.truncate(1), 0);
        due("delete of a row that went", x.delete(1), NO_ROW);
        due("insert gets the smallest id that went", x.insert(0, 32), 1);
        due("insert gets the next id that went", x.insert(10, 64), 2);
        due("truncate(2), the last", x.truncate(2), 2);
        due("truncate(0)", x.truncate(0), 2);
        due("seen", seen(x), "0:0 10:1 20:0 count 1 sum 64 pairs 0 touched 1 match 2");
        PartitionPruner full = fullTable();
        due("truncate(0) of 40 rows", full.truncate(0), 40);
        due("insert after it", full.insert(0, 0), 0);
    }

    private static void clearTerms() {
        PartitionPruner x = withRows(1, 1, 1, 2, 3, 4);
        split(x, 2);
        x.clearTerms();
        due("term()", x.term(0, 255, MIN), 1);
        due("term()", x.term(0, 255, 0), 2);
        due("count() before", x.count(), 3);
        x.clearTerms();
        due("seen without terms", seen(x), "0:2 2:1 count 0 sum 0 pairs 0 touched 0 match");
        due("term() counts anew", x.term(1, 1, 2), 1);
        due("seen with the new term alone", seen(x), "0:2 2:1 count 1 sum 2 pairs 0 touched 1 match 1");
        for (int n = 2; n <= 4; n++) {
            due("term() number " + n, x.term(9, 9, 9), n);
        }
        due("term() number 5", x.term(0, 255, MIN), FULL);
        x.clearTerms();
        x.clearTerms();
        due("term() after clearing four", x.term(3, 3, 4), 1);
        due("count()", x.count(), 1);
    }

    private static int countWith(PartitionPruner x, int lo, int hi, int least) {
        x.clearTerms();
        due("term()", x.term(lo, hi, least), 1);
        return x.count();
    }

    private static void term() {
        PartitionPruner x = withRows(10, 5, 20, 6, 30, 7, 0, MIN, 255, MAX);
        due("count of (10, 20, MIN)", countWith(x, 10, 20, MIN), 2);
        due("count of (11, 20, MIN)", countWith(x, 11, 20, MIN), 1);
        due("count of (10, 19, MIN)", countWith(x, 10, 19, MIN), 1);
        due("count of (10, 10, 5)", countWith(x, 10, 10, 5), 1);
        due("count of (10, 10, 6)", countWith(x, 10, 10, 6), 0);
        due("count of (20, 10, MIN)", countWith(x, 20, 10, MIN), 0);
        due("count of (MAX, MIN, MIN)", countWith(x, MAX, MIN, MIN), 0);
        due("count of (MIN, MAX, MIN)", countWith(x, MIN, MAX, MIN), 5);
        due("count of (MIN, MAX, MIN + 1)", countWith(x, MIN, MAX, MIN + 1), 4);
        due("count of (MIN, MAX, MAX)", countWith(x, MIN, MAX, MAX), 1);
        due("count of (MIN, -1, MIN)", countWith(x, MIN, -1, MIN), 0);
        due("count of (256, MAX, MIN)", countWith(x, 256, MAX, MIN), 0);
        due("count of (MIN, 0, MIN)", countWith(x, MIN, 0, MIN), 1);
        due("count of (255, MAX, MIN)", countWith(x, 255, MAX, MIN), 1);
        termsTogether();
    }

    private static void termsTogether() {
        PartitionPruner x = withRows(10, 5, 20, 6, 30, 7, 40, 8, 50, 9);
        due("term 1", x.term(10, 10, 0), 1);
        due("count()", x.count(), 1);
        due("term 2, which never holds", x.term(50, 0, MIN), 2);
        due("count()", x.count(), 1);
        due("term 3", x.term(0, 30, 6), 3);
        due("match after three", matches(x), " 0 1 2");
        due("term 4", x.term(40, 40, 8), 4);
        String before = seen(x);
        due("seen after four", before, "0:5 count 4 sum 26 pairs 0 touched 1 match 0 1 2 3");
        due("term 5", x.term(0, 255, MIN), FULL);
        due("term 6, which never holds", x.term(1, 0, 0), FULL);
        due("seen after FULL", seen(x), before);
        PartitionPruner late = new PartitionPruner();
        due("term ahead of the rows", late.term(5, 5, 5), 1);
        due("insert", late.insert(5, 5), 0);
        due("count() of a row that came later", late.count(), 1);
        due("update", late.update(0, 5, 4), 0);
        due("count() of a row that ceased to fulfil", late.count(), 0);
    }

    private static void partitions() {
        PartitionPruner x = new PartitionPruner();
        int[] bounds = {10, 20, 30, 40, 50, 60, 70};
        due("partitions()", x.partitions(), 1);
        for (int i = 0; i < bounds.length; i++) {
            due("split()", x.split(bounds[i]), i + 1);
            due("partitions()", x.partitions(), i + 2);
        }
        due("split with eight", x.split(80), FULL);
        due("partitions()", x.partitions(), 8);
        due("truncate(3)", x.truncate(3), 0);
        due("partitions() after truncate", x.partitions(), 8);
        for (int left = 7; left >= 1; left--) {
            due("merge(0)", x.merge(0), 0);
            due("partitions()", x.partitions(), left);
        }
        due("merge(0) with one", x.merge(0), NO_PARTITION);
        due("partitions()", x.partitions(), 1);
    }

    private static void bound() {
        PartitionPruner x = withBounds(1, 50, 100, 150, 200, 254, 255);
        int[] want = {0, 1, 50, 100, 150, 200, 254, 255};
        for (int i = 0; i < 8; i++) {
            due("bound(" + i + ")", x.bound(i), want[i]);
        }
        due("bound(8)", x.bound(8), NO_PARTITION);
        due("bound(-1)", x.bound(-1), NO_PARTITION);
        due("bound(MIN)", x.bound(MIN), NO_PARTITION);
        due("bound(MAX)", x.bound(MAX), NO_PARTITION);
        due("merge(3)", x.merge(3), 0);
        due("bound(3)", x.bound(3), 100);
        due("bound(4)", x.bound(4), 200);
        due("bound(6)", x.bound(6), 255);
        due("bound(7)", x.bound(7), NO_PARTITION);
    }

    private static void rowsIn() {
        PartitionPruner x = withRows(0, 0, 9, 0, 10, 0, 10, 0, 19, 0, 200, 0, 255, 0);
        due("rowsIn(0) of one partition", x.rowsIn(0), 7);
        split(x, 10, 20, 100);
        due("rowsIn(0)", x.rowsIn(0), 2);
        due("rowsIn(1)", x.rowsIn(1), 3);
        due("rowsIn(2)", x.rowsIn(2), 0);
        due("rowsIn(3)", x.rowsIn(3), 2);
        due("rowsIn(4)", x.rowsIn(4), NO_PARTITION);
        due("rowsIn(8)", x.rowsIn(8), NO_PARTITION);
        due("rowsIn(-1)", x.rowsIn(-1), NO_PARTITION);
        due("rowsIn(MIN)", x.rowsIn(MIN), NO_PARTITION);
        due("rowsIn(MAX)", x.rowsIn(MAX), NO_PARTITION);
        due("term that never holds", x.term(1, 0, 0), 1);
        due("rowsIn(1) whatever the query", x.rowsIn(1), 3);
        due("update(0, 50, 0)", x.update(0, 50, 0), 0);
        due("rowsIn(0)", x.rowsIn(0), 1);
        due("rowsIn(2)", x.rowsIn(2), 1);
        due("insert(99, 0)", x.insert(99, 0), 7);
        due("rowsIn(2) after insert", x.rowsIn(2), 2);
        due("delete(7)", x.delete(7), 7);
        due("rowsIn(2) after delete", x.rowsIn(2), 1);
    }

    private static void count() {
        PartitionPruner x = withRows(10, 1, 10, 5, 20, 5, 30, 0);
        due("count() without terms", x.count(), 0);
        due("term", x.term(0, 20, 5), 1);
        due("count()", x.count(), 2);
        due("term that holds for one of the same rows", x.term(20, 30, 0), 2);
        due("count() takes a row once", x.count(), 3);
        due("term", x.term(0, 255, MIN), 3);
        due("count() of all", x.count(), 4);
        due("delete(1)", x.delete(1), 3);
        due("count()", x.count(), 3);
    }

    private static void sum() {
        PartitionPruner x = withRows(1, MAX, 2, 1, 3, -7, 4, MIN, 5, -1);
        due("sum() without terms", x.sum(), 0);
        due("term", x.term(1, 2, MIN), 1);
        due("sum() wraps upwards", x.sum(), MIN);
        x.clearTerms();
        due("term", x.term(4, 5, MIN), 1);
        due("sum() wraps downwards", x.sum(), MAX);
        x.clearTerms();
        due("term", x.term(2, 3, -7), 1);
        due("sum() below 0", x.sum(), -6);
        due("the same term again", x.term(2, 3, -7), 2);
        due("sum() takes a row once", x.sum(), -6);
        due("delete(2)", x.delete(2), 4);
        due("sum()", x.sum(), 1);
    }

    private static void match() {
        PartitionPruner x = withRows(50, 0, 10, 0, 50, 0, 0, 0, 255, 0, 10, 0, 10, -1);
        due("match(0) without terms", x.match(0), NO_ROW);
        due("term", x.term(0, 255, 0), 1);
        due("order by key and id", matches(x), " 3 1 5 0 2 4");
        due("match(6), one too far", x.match(6), NO_ROW);
        due("match(40)", x.match(40), NO_ROW);
        due("match(-1)", x.match(-1), NO_ROW);
        due("match(MIN)", x.match(MIN), NO_ROW);
        due("match(MAX)", x.match(MAX), NO_ROW);
        due("split(10)", x.split(10), 1);
        due("order after a split", matches(x), " 3 1 5 0 2 4");
        due("term for the rows already found", x.term(10, 50, -1), 2);
        due("order with two terms", matches(x), " 3 1 5 6 0 2 4");
        due("delete(3)", x.delete(3), 6);
        due("insert", x.insert(0, 0), 3);
        due("update(3, 50, 0)", x.update(3, 50, 0), 0);
        due("order after update", matches(x), " 1 5 6 0 2 3 4");
        matchOfFull();
    }

    private static void matchOfFull() {
        PartitionPruner x = new PartitionPruner();
        for (int id = 0; id < 40; id++) {
            due("insert number " + id, x.insert(255 - id, 0), id);
        }
        seeAllRows(x);
        for (int n = 0; n < 40; n++) {
            due("match(" + n + ") of 40 rows", x.match(n), 39 - n);
        }
        due("match(40) of 40 rows", x.match(40), NO_ROW);
    }

    private static void pairs() {
        PartitionPruner x = withRows(10, 1, 10, 2, 10, 3, 20, 1, 20, 1, 30, 1);
        due("pairs() without terms", x.pairs(), 0);
        due("term", x.term(0, 255, MIN), 1);
        due("pairs() of all", x.pairs(), 4);
        x.clearTerms();
        due("term", x.term(0, 255, 2), 1);
        due("pairs() of which both fulfil", x.pairs(), 1);
        due("term", x.term(20, 30, 0), 2);
        due("pairs() with two terms", x.pairs(), 2);
        due("terms for the same rows", x.term(10, 10, 1), 3);
        due("pairs() takes a pair once", x.pairs(), 4);
        due("update(5, 20, 9)", x.update(5, 20, 9), 0);
        due("pairs() after update", x.pairs(), 6);
        due("delete(4)", x.delete(4), 5);
        due("pairs() after delete", x.pairs(), 4);
        PartitionPruner same = new PartitionPruner();
        for (int id = 0; id < 40; id++) {
            due("insert number " + id, same.insert(255, id), id);
        }
        seeAllRows(same);
        due("pairs() of 40 equal keys", same.pairs(), 780);
    }

    private static void touched() {
        PartitionPruner x = withRows(0, 1, 9, 2, 10, 3, 100, 4, 255, 5);
        due("touched() without terms", x.touched(), 0);
        due("term", x.term(0, 255, MIN), 1);
        due("touched() of one partition", x.touched(), 1);
        split(x, 10, 20, 200);
        due("touched() of all that hold rows", x.touched(), 4);
        due("split(50)", x.split(50), 3);
        due("touched() leaves out an empty one", x.touched(), 4);
        x.clearTerms();
        due("a term whose range meets all", x.term(0, 255, 4), 1);
        due("touched() looks at rows, not ranges", x.touched(), 2);
        due("term", x.term(0, 9, 0), 2);
        due("touched() takes a partition once", x.touched(), 3);
        due("merge(3)", x.merge(3), 2);
        due("touched() after merge", x.touched(), 2);
        due("truncate(3)", x.truncate(3), 2);
        due("touched() after truncate", x.touched(), 1);
        PartitionPruner eight = fullTable();
        split(eight, 30, 60, 90, 120, 150, 180, 210);
        seeAllRows(eight);
        due("touched() of eight", eight.touched(), 8);
    }

    private static void orderAndLimits() {
        PartitionPruner x = fullTable();
        due("insert(-1, 0) into a full table", x.insert(-1, 0), BAD_KEY);
        due("insert(256, 0) into a full table", x.insert(256, 0), BAD_KEY);
        due("insert(0, 0) into a full table", x.insert(0, 0), FULL);
        due("update(40, -1, 0)", x.update(40, -1, 0), NO_ROW);
        due("update(-1, 256, 0)", x.update(-1, 256, 0), NO_ROW);
        due("delete(4)", x.delete(4), 39);
        due("update(4, 256, 0)", x.update(4, 256, 0), NO_ROW);
        due("update(5, 256, 0)", x.update(5, 256, 0), BAD_KEY);
        split(x, 10, 20, 30, 40, 50, 60, 70);
        due("split(0) with eight", x.split(0), BAD_BOUND);
        due("split(-1) with eight", x.split(-1), BAD_BOUND);
        due("split(256) with eight", x.split(256), BAD_BOUND);
        due("split(10) with eight", x.split(10), BAD_BOUND);
        due("split(70) with eight", x.split(70), BAD_BOUND);
        due("split(71) with eight", x.split(71), FULL);
    }

    private static void run(int number, Runnable test) {
        promise = number;
        test.run();
    }

    public static void main(String[] args) {
        run(1, PromisesTest::newObject);
        run(2, PromisesTest::insert);
        run(3, PromisesTest::delete);
        run(4, PromisesTest::update);
        run(5, PromisesTest::splitPromise);
        run(6, PromisesTest::merge);
        run(7, PromisesTest::truncate);
        run(8, PromisesTest::clearTerms);
        run(9, PromisesTest::term);
        run(10, PromisesTest::partitions);
        run(11, PromisesTest::bound);
        run(12, PromisesTest::rowsIn);
        run(13, PromisesTest::count);
        run(14, PromisesTest::sum);
        run(15, PromisesTest::match);
        run(16, PromisesTest::pairs);
        run(17, PromisesTest::touched);
        run(18, PromisesTest::orderAndLimits);
        System.out.println(wrong == 0 ? "all promises hold" : wrong + " answers are not as due");
        if (wrong != 0) {
            System.exit(1);
        }
    }
}
