public final class ColumnStore {
    private static final int COLUMNS = 3;
    private static final int MOST_ROWS = 64;
    // MOST_ROWS times COLUMNS.
    private static final int MOST_CELLS = 192;

    // Row by row, three cells each: the language has no arrays of arrays.
    private final int[] cells = new int[MOST_CELLS];
    // Struck rows keep their number and cells, because value still answers them.
    private final boolean[] struck = new boolean[MOST_ROWS];
    private final boolean[] ranged = new boolean[COLUMNS];
    private final int[] lows = new int[COLUMNS];
    private final int[] highs = new int[COLUMNS];
    private int rows;

    public ColumnStore() {
        rows = 0;
    }

    public int append(int a, int b, int c) {
        if (rows >= MOST_ROWS) {
            return -1;
        }
        int row = rows;
        int start = row * COLUMNS;
        cells[start] = a;
        cells[start + 1] = b;
        cells[start + 2] = c;
        rows = row + 1;
        return row;
    }

    public int strike(int row) {
        if (!isRow(row) || struck[row]) {
            return -1;
        }
        struck[row] = true;
        return 0;
    }

    public int range(int column, int low, int high) {
        if (!isColumn(column)) {
            return -1;
        }
        ranged[column] = true;
        lows[column] = low;
        highs[column] = high;
        return 0;
    }

    public void open() {
        for (int column = 0; column < COLUMNS; column++) {
            ranged[column] = false;
        }
    }

    public int count() {
        int found = 0;
        for (int row = 0; row < rows; row++) {
            if (passes(row)) {
                found++;
            }
        }
        return found;
    }

    public long sum(int column) {
        if (!isColumn(column)) {
            return 0L;
        }
        // 64 ints can go beyond an int, never beyond a long.
        long total = 0L;
        for (int row = 0; row < rows; row++) {
            if (passes(row)) {
                total += cell(row, column);
            }
        }
        return total;
    }

    public int extreme(int column, boolean greatest) {
        if (!isColumn(column)) {
            return 0;
        }
        // Any int may be a value, so a flag and not a special value says that there is none yet.
        boolean found = false;
        int best = 0;
        for (int row = 0; row < rows; row++) {
            if (passes(row)) {
                int here = cell(row, column);
                if (!found || (greatest ? here > best : here < best)) {
                    best = here;
                    found = true;
                }
            }
        }
        return best;
    }

    public int passing(int place) {
        int before = 0;
        for (int row = 0; row < rows; row++) {
            if (passes(row)) {
                if (before == place) {
                    return row;
                }
                before++;
            }
        }
        return -1;
    }

    public int value(int row, int column) {
        if (!isRow(row) || !isColumn(column)) {
            return 0;
        }
        return cell(row, column);
    }

    public int different(int column) {
        if (!isColumn(column)) {
            return -1;
        }
        int found = 0;
        for (int row = 0; row < rows; row++) {
            if (passes(row) && isFirstOfItsValue(row, column)) {
                found++;
            }
        }
        return found;
    }

    public int live() {
        int found = 0;
        for (int row = 0; row < rows; row++) {
            if (!struck[row]) {
                found++;
            }
        }
        return found;
    }

    private boolean isRow(int row) {
        return row >= 0 && row < rows;
    }

    private boolean isColumn(int column) {
        return column >= 0 && column < COLUMNS;
    }

    // Its callers have looked at both numbers, so the index is always within the array.
    private int cell(int row, int column) {
        return cells[row * COLUMNS + column];
    }

    private boolean passes(int row) {
        if (struck[row]) {
            return false;
        }
        for (int column = 0; column < COLUMNS; column++) {
            if (ranged[column] && !isWithinRange(row, column)) {
                return false;
            }
        }
        return true;
    }

    private boolean isWithinRange(int row, int column) {
        int here = cell(row, column);
        return here >= lows[column] && here <= highs[column];
    }

    // Only passing rows are compared: a value is not used up by a row that does not pass.
    private boolean isFirstOfItsValue(int row, int column) {
        int here = cell(row, column);
        for (int earlier = 0; earlier < row; earlier++) {
            if (passes(earlier) && cell(earlier, column) == here) {
                return false;
            }
        }
        return true;
    }
}
