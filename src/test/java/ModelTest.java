import java.util.ArrayList;
import java.util.Comparator;
import java.util.List;
import java.util.TreeMap;
import java.util.TreeSet;
import java.util.stream.Collectors;

// Long runs of calls, compared answer by answer with a model that follows the document's words.
// The runs come from a fixed recurrence, so that every run of this test makes the same calls.
public final class ModelTest {
    private static final int RUNS = 3000;
    // The document speaks for this many calls on one object and no more.
    private static final int CALLS = 512;

    private record Row(int id, int key, int value) { }

    private record Term(int lo, int hi, int least) {
        boolean holds(Row r) {
            return lo <= r.key() && r.key() <= hi && r.value() >= least;
        }
    }

    private static final class Model {
        private final TreeMap<Integer, Row> rows = new TreeMap<>();
        private final TreeSet<Integer> bounds = new TreeSet<>(List.of(0));
        private final List<Term> terms = new ArrayList<>();

        private static boolean isKey(int key) {
            return 0 <= key && key <= 255;
        }

        private boolean isPartition(int i) {
            return 0 <= i && i < bounds.size();
        }

        private int lowerBound(int i) {
            return new ArrayList<>(bounds).get(i);
        }

        private List<Row> rowsOf(int i) {
            int low = lowerBound(i);
            return rows.values().stream().filter(r -> bounds.floor(r.key()) == low).collect(Collectors.toList());
        }

        private List<Row> found() {
            return rows.values().stream()
                .filter(r -> terms.stream().anyMatch(t -> t.holds(r)))
                .sorted(Comparator.comparingInt(Row::key).thenComparingInt(Row::id))
                .collect(Collectors.toList());
        }

        int insert(int key, int value) {
            if (!isKey(key)) {
                return -1;
            }
            if (rows.size() == 40) {
                return -2;
            }
            int id = 0;
            while (rows.containsKey(id)) {
                id++;
            }
            rows.put(id, new Row(id, key, value));
            return id;
        }

        int delete(int id) {
            return rows.remove(id) == null ? -3 : rows.size();
        }

        int update(int id, int key, int value) {
            if (!rows.containsKey(id)) {
                return -3;
            }
            if (!isKey(key)) {
                return -1;
            }
            rows.put(id, new Row(id, key, value));
            return 0;
        }

        int split(int key) {
            if (key < 1 || key > 255 || bounds.contains(key)) {
                return -4;
            }
            if (bounds.size() == 8) {
                return -2;
            }
            bounds.add(key);
            return bounds.headSet(key).size();
        }

        int merge(int i) {
            if (!isPartition(i) || i == bounds.size() - 1) {
                return -5;
            }
            bounds.remove(lowerBound(i + 1));
            return rowsOf(i).size();
        }

        int truncate(int i) {
            if (!isPartition(i)) {
                return -5;
            }
            List<Row> gone = rowsOf(i);
            gone.forEach(r -> rows.remove(r.id()));
            return gone.size();
        }

        int term(int lo, int hi, int least) {
            if (terms.size() == 4) {
                return -2;
            }
            terms.add(new Term(lo, hi, least));
            return terms.size();
        }

        int bound(int i) {
            return isPartition(i) ? lowerBound(i) : -5;
        }

        int rowsIn(int i) {
            return isPartition(i) ? rowsOf(i).size() : -5;
        }

        int sum() {
            return (int) found().stream().mapToLong(Row::value).sum();
        }

        int match(int n) {
            List<Row> all = found();
            return 0 <= n && n < all.size() ? all.get(n).id() : -3;
        }

        int pairs() {
            return found().stream().collect(Collectors.groupingBy(Row::key, Collectors.counting()))
                .values().stream().mapToInt(c -> (int) (c * (c - 1) / 2)).sum();
        }

        int touched() {
            return (int) found().stream().map(r -> bounds.floor(r.key())).distinct().count();
        }
    }

    private long state;
    private final int topKey;
    private final int insertWeight;
    private final int dropWeight;
    private final PartitionPruner x = new PartitionPruner();
    private final Model m = new Model();
    private final List<String> told = new ArrayList<>();

    private ModelTest(int run) {
        state = run * 2654435761L + 12345;
        // Few keys make pairs and equal bounds; many make wide partitions.
        topKey = new int[] {3, 9, 40, 255}[below(4)];
        insertWeight = new int[] {4, 10, 25}[below(3)];
        dropWeight = new int[] {1, 3}[below(2)];
    }

    private int below(int bound) {
        state = state * 6364136223846793005L + 1442695040888963407L;
        return (int) ((state >>> 33) % bound);
    }

    private int anyWildInt() {
        return new int[] {Integer.MIN_VALUE, Integer.MAX_VALUE, -1, 256, 40, 8}[below(6)];
    }

    private int key() {
        return below(25) == 0 ? anyWildInt() : below(30) == 0 ? 255 : below(topKey + 1);
    }

    private int value() {
        return below(15) == 0 ? anyWildInt() : below(60) - 20;
    }

    private int rowId() {
        return below(25) == 0 ? anyWildInt() : below(41);
    }

    private int partition() {
        return below(25) == 0 ? anyWildInt() : below(9);
    }

    private boolean same(String call, int got, int want) {
        told.add(call + " = " + want);
        if (got == want) {
            return true;
        }
        System.out.println("after " + told.subList(0, told.size() - 1));
        System.out.println(call + " answered " + got + ", due is " + want);
        return false;
    }

    private boolean change() {
        int weights = insertWeight + 4 * dropWeight + 10;
        int pick = below(weights);
        if (pick < insertWeight) {
            int k = key();
            int v = value();
            return same("insert(" + k + ", " + v + ")", x.insert(k, v), m.insert(k, v));
        }
        pick -= insertWeight;
        if (pick < 3 * dropWeight) {
            int id = rowId();
            return same("delete(" + id + ")", x.delete(id), m.delete(id));
        }
        pick -= 3 * dropWeight;
        if (pick < dropWeight) {
            // Often enough to be seen, seldom enough for the table to fill up.
            int i = below(4) == 0 ? partition() : 7 + below(3);
            return same("truncate(" + i + ")", x.truncate(i), m.truncate(i));
        }
        return changeWithoutDrop(pick - dropWeight);
    }

    private boolean changeWithoutDrop(int pick) {
        if (pick < 3) {
            int id = rowId();
            int k = key();
            int v = value();
            return same("update(" + id + ", " + k + ", " + v + ")", x.update(id, k, v), m.update(id, k, v));
        }
        if (pick < 6) {
            int k = key();
            return same("split(" + k + ")", x.split(k), m.split(k));
        }
        if (pick < 7) {
            int i = partition();
            return same("merge(" + i + ")", x.merge(i), m.merge(i));
        }
        if (pick < 9) {
            int lo = below(3) == 0 ? -2 : key();
            int hi = below(3) == 0 ? 300 : key();
            int least = value();
            return same("term(" + lo + ", " + hi + ", " + least + ")", x.term(lo, hi, least), m.term(lo, hi, least));
        }
        if (below(3) == 0) {
            x.clearTerms();
            m.terms.clear();
            told.add("clearTerms()");
        }
        return true;
    }

    private boolean look() {
        int i = partition();
        switch (below(8)) {
            case 0: return same("partitions()", x.partitions(), m.bounds.size());
            case 1: return same("bound(" + i + ")", x.bound(i), m.bound(i));
            case 2: return same("rowsIn(" + i + ")", x.rowsIn(i), m.rowsIn(i));
            case 3: return same("count()", x.count(), m.found().size());
            case 4: return same("sum()", x.sum(), m.sum());
            case 5: return lookAtMatch();
            case 6: return same("pairs()", x.pairs(), m.pairs());
            default: return same("touched()", x.touched(), m.touched());
        }
    }

    private boolean lookAtMatch() {
        int n = below(25) == 0 ? anyWildInt() : below(m.found().size() + 2);
        return same("match(" + n + ")", x.match(n), m.match(n));
    }

    private boolean runAll() {
        for (int call = 0; call < CALLS; call++) {
            boolean right = below(2) == 0 ? change() : look();
            if (!right) {
                return false;
            }
        }
        return true;
    }

    public static void main(String[] args) {
        for (int run = 0; run < RUNS; run++) {
            if (!new ModelTest(run).runAll()) {
                System.out.println("run " + run + " differs from the model");
                System.exit(1);
            }
        }
        System.out.println(RUNS + " runs of up to " + CALLS + " calls agree with the model");
    }
}
