import java.util.ArrayList;
import java.util.List;
import java.util.stream.IntStream;

/** Long runs of mixed calls, each answer compared with that of a model written from the document's terms. */
public final class ModelTest {
    private static final int RUNS = 3000;
    private static final int CALLS = 512;
    private static final int[] EDGES = {
        Integer.MIN_VALUE, Integer.MIN_VALUE + 1, -1, 0, 1, Integer.MAX_VALUE - 1, Integer.MAX_VALUE,
    };

    private final List<int[]> rows = new ArrayList<>();
    private final List<Boolean> alive = new ArrayList<>();
    private final int[][] ranges = new int[3][];
    private final ColumnStore store = new ColumnStore();
    private final StringBuilder told = new StringBuilder();
    private final boolean wide;
    private long state;

    private ModelTest(int run) {
        state = run;
        wide = run % 2 == 1;
    }

    public static void main(String[] args) {
        int wrong = 0;
        for (int run = 0; run < RUNS && wrong < 5; run++) {
            ModelTest test = new ModelTest(run);
            if (!test.holds()) {
                wrong++;
                System.out.println("run " + run + ":" + test.told);
            }
        }
        System.out.println(wrong == 0 ? RUNS + " runs are as due" : wrong + " runs are not as due");
        if (wrong != 0) {
            System.exit(1);
        }
    }

    private boolean holds() {
        // How often rows come and go differs from run to run, so that some tables fill up and some stay small.
        int appends = 1 + pick(8);
        int strikes = pick(3);
        for (int call = 0; call < CALLS; call++) {
            int kind = pick(appends + strikes + 12);
            boolean right = kind < appends ? append()
                : kind < appends + strikes ? strike()
                : question(kind - appends - strikes);
            if (!right) {
                return false;
            }
        }
        return true;
    }

    private boolean question(int kind) {
        int column = pickColumn();
        boolean known = column >= 0 && column < 3;
        IntStream passing = passingRows();
        switch (kind) {
            case 0: case 1: case 2:
                return range(column);
            case 3:
                store.open();
                told.append(" open()");
                ranges[0] = ranges[1] = ranges[2] = null;
                return true;
            case 4:
                return same("count()", store.count(), passing.count());
            case 5:
                return same("sum(" + column + ")", store.sum(column),
                    known ? passing.mapToLong(row -> rows.get(row)[column]).sum() : 0);
            case 6:
                return same("extreme(" + column + ", false)", store.extreme(column, false),
                    known ? passing.map(row -> rows.get(row)[column]).min().orElse(0) : 0);
            case 7:
                return same("extreme(" + column + ", true)", store.extreme(column, true),
                    known ? passing.map(row -> rows.get(row)[column]).max().orElse(0) : 0);
            case 8:
                return passing(passing.toArray());
            case 9:
                return value(column);
            case 10:
                return same("different(" + column + ")", store.different(column),
                    known ? passing.map(row -> rows.get(row)[column]).distinct().count() : -1);
            default:
                return same("live()", store.live(), alive.stream().filter(live -> live).count());
        }
    }

    private boolean append() {
        int[] row = {pickValue(), pickValue(), pickValue()};
        int want = rows.size() < 64 ? rows.size() : -1;
        if (want >= 0) {
            rows.add(row);
            alive.add(true);
        }
        return same("append(" + row[0] + ", " + row[1] + ", " + row[2] + ")",
            store.append(row[0], row[1], row[2]), want);
    }

    private boolean strike() {
        int row = pickRow();
        boolean can = row >= 0 && row < rows.size() && alive.get(row);
        if (can) {
            alive.set(row, false);
        }
        return same("strike(" + row + ")", store.strike(row), can ? 0 : -1);
    }

    private boolean range(int column) {
        int low = pickValue();
        int high = pickValue();
        if (low > high && pick(5) != 0) {
            int other = low;
            low = high;
            high = other;
        }
        boolean known = column >= 0 && column < 3;
        if (known) {
            ranges[column] = new int[] {low, high};
        }
        return same("range(" + column + ", " + low + ", " + high + ")",
            store.range(column, low, high), known ? 0 : -1);
    }

    private boolean passing(int[] passing) {
        int place = pick(8) == 0 ? pickValue() : pick(passing.length + 3) - 1;
        return same("passing(" + place + ")", store.passing(place),
            place >= 0 && place < passing.length ? passing[place] : -1);
    }

    private boolean value(int column) {
        int row = pickRow();
        boolean known = row >= 0 && row < rows.size() && column >= 0 && column < 3;
        return same("value(" + row + ", " + column + ")", store.value(row, column),
            known ? rows.get(row)[column] : 0);
    }

    private IntStream passingRows() {
        return IntStream.range(0, rows.size()).filter(row -> alive.get(row)
            && IntStream.range(0, 3).allMatch(column -> ranges[column] == null
                || (ranges[column][0] <= rows.get(row)[column] && rows.get(row)[column] <= ranges[column][1])));
    }

    private boolean same(String call, long got, long want) {
        told.append(' ').append(call);
        if (got != want) {
            told.append(" answered ").append(got).append(", due is ").append(want);
        }
        return got == want;
    }

    private int pickColumn() {
        return pick(12) == 0 ? EDGES[pick(EDGES.length)] : pick(15) == 0 ? 3 : pick(3);
    }

    private int pickRow() {
        return pick(10) == 0 ? EDGES[pick(EDGES.length)] : pick(rows.size() + 2);
    }

    private int pickValue() {
        if (!wide) {
            return pick(21) - 10;
        }
        return pick(3) == 0 ? EDGES[pick(EDGES.length)] : (int) next();
    }

    private int pick(int bound) {
        return (int) ((next() >>> 1) % bound);
    }

    // SplitMix64: the same numbers in every run of the test.
    private long next() {
        state += 0x9E3779B97F4A7C15L;
        long mixed = (state ^ (state >>> 30)) * 0xBF58476D1CE4E5B9L;
        mixed = (mixed ^ (mixed >>> 27)) * 0x94D049BB133111EBL;
        return mixed ^ (mixed >>> 31);
    }
}
