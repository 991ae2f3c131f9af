/** For each promise of the document: ordinary inputs, the edges that it names, and wrong inputs. */
public final class PromisesTest {
    private static final int MIN = Integer.MIN_VALUE;
    private static final int MAX = Integer.MAX_VALUE;
    private static final int[] WRONG_COLUMNS = {-1, 3, 4, 64, MIN, MAX};

    private static int checks = 0;
    private static int wrong = 0;

    public static void main(String[] args) {
        newObject();
        objectsAreApart();
        objectsByTurns();
        append();
        appendToFull();
        appendUnderRanges();
        strike();
        strikeWrongRows();
        strikeAllOfFull();
        range();
        rangeEdges();
        rangeReplacesAndJoins();
        rangeWrongColumns();
        open();
        count();
        sum();
        sumBeyondInt();
        extreme();
        extremeOfOneSign();
        passing();
        passingWrongPlaces();
        value();
        valueWrongPlaces();
        different();
        live();
        questionsChangeNothing();
        System.out.println(checks + " checks, " + wrong + " wrong");
        if (wrong != 0) {
            System.exit(1);
        }
    }

    private static void due(String what, long got, long want) {
        checks++;
        if (got != want) {
            wrong++;
            System.out.println(what + " answered " + got + ", due is " + want);
        }
    }

    /** Rows 0 to 4; row 2 struck out. */
    private static ColumnStore sample() {
        ColumnStore x = new ColumnStore();
        x.append(10, -1, 5);
        x.append(20, -2, 5);
        x.append(30, -3, 6);
        x.append(40, -4, 7);
        x.append(50, -5, 5);
        x.strike(2);
        return x;
    }

    private static ColumnStore full() {
        ColumnStore x = new ColumnStore();
        for (int row = 0; row < 64; row++) {
            x.append(row, -row, row % 7);
        }
        return x;
    }

    private static void newObject() {
        ColumnStore x = new ColumnStore();
        due("1: count of a new object", x.count(), 0);
        due("1: live of a new object", x.live(), 0);
        due("1: passing(0) of a new object", x.passing(0), -1);
        for (int column = 0; column < 3; column++) {
            due("1: sum of a new object", x.sum(column), 0);
            due("1: least of a new object", x.extreme(column, false), 0);
            due("1: greatest of a new object", x.extreme(column, true), 0);
            due("1: different of a new object", x.different(column), 0);
            due("1: value of a new object", x.value(0, column), 0);
        }
        x.append(MIN, MAX, 1);
        due("1: a new object has no range", x.count(), 1);
    }

    private static void objectsAreApart() {
        ColumnStore x = new ColumnStore();
        ColumnStore y = new ColumnStore();
        x.append(1, 2, 3);
        x.range(0, 9, 9);
        due("1: rows of another object", y.live(), 0);
        due("1: first row of another object", y.append(4, 5, 6), 0);
        due("1: ranges of another object", y.count(), 1);
        due("1: cells of another object", x.value(0, 0), 1);
    }

    private static void objectsByTurns() {
        ColumnStore x = sample();
        ColumnStore y = sample();
        for (int column = 0; column < 3; column++) {
            x.range(column, x.value(1, column), x.value(1, column));
            y.range(column, y.value(3, column), y.value(3, column));
            due("4: count in one's range of column " + column, x.count(), column == 2 ? 3 : 1);
            due("4: count in the other's", y.count(), 1);
            due("4: passing in one's range", x.passing(0), column == 2 ? 0 : 1);
            due("4: passing in the other's", y.passing(0), 3);
            x.open();
            due("5: count after open", x.count(), 4);
            due("5: count of the other, not opened", y.count(), 1);
            y.open();
        }
        x.strike(0);
        due("3: live of one", x.live(), 3);
        due("3: live of the other", y.live(), 4);
        due("3: strike in the other", y.strike(0), 0);
        due("2: append to one", x.append(1, 2, 3), 5);
        due("2: append to the other", y.append(4, 5, 6), 5);
        due("2: value of one", x.value(5, 0), 1);
        due("2: value of the other", y.value(5, 0), 4);
    }

    private static void append() {
        ColumnStore x = new ColumnStore();
        due("2: first append", x.append(1, 2, 3), 0);
        due("2: second append", x.append(MIN, 0, MAX), 1);
        due("2: value(0, 0)", x.value(0, 0), 1);
        due("2: value(0, 1)", x.value(0, 1), 2);
        due("2: value(0, 2)", x.value(0, 2), 3);
        due("2: value(1, 0)", x.value(1, 0), MIN);
        due("2: value(1, 1)", x.value(1, 1), 0);
        due("2: value(1, 2)", x.value(1, 2), MAX);
        x.strike(1);
        due("2: a struck row's number is not given again", x.append(7, 8, 9), 2);
        due("2: the struck row's value stays", x.value(1, 2), MAX);
        due("2: an appended row is live", x.live(), 2);
    }

    private static void appendToFull() {
        ColumnStore x = new ColumnStore();
        for (int row = 0; row < 64; row++) {
            due("2: append of row " + row, x.append(row, -row, row * 1000), row);
        }
        due("2: append to 64 rows", x.append(9, 9, 9), -1);
        due("2: append to 64 rows again", x.append(9, 9, 9), -1);
        due("2: live after a refused append", x.live(), 64);
        due("2: count after a refused append", x.count(), 64);
        due("2: sum after a refused append", x.sum(0), 2016);
        for (int row = 0; row < 64; row++) {
            due("2: a", x.value(row, 0), row);
            due("2: b", x.value(row, 1), -row);
            due("2: c", x.value(row, 2), row * 1000);
        }
        x.strike(63);
        due("2: append to 64 rows, one of them struck", x.append(9, 9, 9), -1);
        due("2: live after that", x.live(), 63);
        due("2: value after that", x.value(63, 0), 63);
    }

    private static void appendUnderRanges() {
        ColumnStore x = new ColumnStore();
        x.range(1, 5, 6);
        due("2: append of a row that will not pass", x.append(0, 4, 0), 0);
        due("2: append of a row that will pass", x.append(0, 5, 0), 1);
        due("2: count", x.count(), 1);
        due("2: passing(0)", x.passing(0), 1);
        due("2: live", x.live(), 2);
    }

    private static void strike() {
        ColumnStore x = sample();
        due("3: strike(0)", x.strike(0), 0);
        due("3: live", x.live(), 3);
        due("3: count", x.count(), 3);
        due("3: strike of the last row", x.strike(4), 0);
        due("3: count", x.count(), 2);
        due("3: passing(0)", x.passing(0), 1);
        due("3: passing(1)", x.passing(1), 3);
        due("3: a struck row's value", x.value(0, 0), 10);
        x.range(0, 0, 0);
        due("3: strike of a row that does not pass", x.strike(1), 0);
        due("3: live after that", x.live(), 1);
    }

    private static void strikeWrongRows() {
        ColumnStore x = sample();
        for (int row : new int[] {-1, 5, 6, 63, 64, 65, 192, MIN, MAX}) {
            due("3: strike(" + row + ")", x.strike(row), -1);
        }
        due("3: strike of a struck row", x.strike(2), -1);
        due("3: strike of a struck row again", x.strike(2), -1);
        due("3: live after refused strikes", x.live(), 4);
        due("3: append after refused strikes", x.append(1, 1, 1), 5);
        due("3: the row refused before is live now", x.live(), 5);
        due("3: and can be struck", x.strike(5), 0);
    }

    private static void strikeAllOfFull() {
        ColumnStore x = full();
        due("3: strike(64) of 64 rows", x.strike(64), -1);
        for (int row = 63; row >= 0; row--) {
            due("3: strike(" + row + ")", x.strike(row), 0);
            due("3: live", x.live(), row);
        }
        due("3: count with all struck", x.count(), 0);
        due("3: sum with all struck", x.sum(0), 0);
        due("3: least with all struck", x.extreme(0, false), 0);
        due("3: different with all struck", x.different(0), 0);
        due("3: passing with all struck", x.passing(0), -1);
    }

    private static void range() {
        for (int column = 0; column < 3; column++) {
            ColumnStore x = new ColumnStore();
            for (int i = 0; i < 9; i++) {
                x.append(i, (i + 3) % 9, (i + 6) % 9);
            }
            due("4: range", x.range(column, 3, 5), 0);
            due("4: count", x.count(), 3);
            due("4: least", x.extreme(column, false), 3);
            due("4: greatest", x.extreme(column, true), 5);
            due("4: passing(0)", x.passing(0), (3 + 9 - 3 * column) % 9);
        }
    }

    private static void rangeEdges() {
        ColumnStore x = new ColumnStore();
        x.append(MIN, 0, 0);
        x.append(-1, 0, 0);
        x.append(0, 0, 0);
        x.append(1, 0, 0);
        x.append(MAX, 0, 0);
        int[][] lowHighCount = {
            {MIN, MAX, 5}, {MIN, MIN, 1}, {MAX, MAX, 1}, {0, 0, 1}, {-1, 1, 3}, {MIN, 0, 3}, {0, MAX, 3},
            {MIN + 1, MAX - 1, 3}, {2, MAX - 1, 0}, {1, -1, 0}, {1, 0, 0}, {MAX, MIN, 0},
        };
        for (int[] row : lowHighCount) {
            due("4: range(0, " + row[0] + ", " + row[1] + ")", x.range(0, row[0], row[1]), 0);
            due("4: count in " + row[0] + " to " + row[1], x.count(), row[2]);
        }
    }

    private static void rangeReplacesAndJoins() {
        ColumnStore x = sample();
        x.range(0, 10, 20);
        x.range(0, 40, 50);
        due("4: a second range takes the first one's place", x.count(), 2);
        due("4: passing(0)", x.passing(0), 3);
        x.range(2, 5, 5);
        due("4: ranges of two columns", x.passing(0), 4);
        due("4: count", x.count(), 1);
        x.range(1, -4, -1);
        due("4: ranges of three columns", x.count(), 0);
        x.range(0, MIN, MAX);
        due("4: one of three widened", x.count(), 2);
        due("4: a range leaves rows live", x.live(), 4);
        x.range(0, 30, 30);
        x.range(1, MIN, MAX);
        x.range(2, MIN, MAX);
        due("4: a struck row within the ranges does not pass", x.count(), 0);
    }

    private static void rangeWrongColumns() {
        ColumnStore x = sample();
        for (int column : WRONG_COLUMNS) {
            due("4: range(" + column + ", 1, 0)", x.range(column, 1, 0), -1);
            due("4: count after it", x.count(), 4);
        }
        x.range(0, 10, 20);
        for (int column : WRONG_COLUMNS) {
            due("4: range(" + column + ", 0, 100)", x.range(column, 0, 100), -1);
            due("4: count after it", x.count(), 2);
        }
    }

    private static void open() {
        ColumnStore x = sample();
        x.open();
        due("5: open without ranges", x.count(), 4);
        for (int column = 0; column < 3; column++) {
            x.range(column, 1, 0);
            due("5: count before open", x.count(), 0);
            x.open();
            due("5: count after open", x.count(), 4);
        }
        for (int column = 0; column < 3; column++) {
            x.range(column, 1, 0);
        }
        x.open();
        due("5: open takes all three away", x.count(), 4);
        due("5: open brings no struck row back", x.live(), 4);
        x.range(2, 5, 5);
        due("5: only the range given after open holds", x.count(), 3);
        x.append(MIN, MAX, 5);
        due("5: other columns have no range after open", x.count(), 4);
    }

    private static void count() {
        ColumnStore x = sample();
        due("6: count", x.count(), 4);
        x.range(2, 5, 6);
        due("6: count under a range", x.count(), 3);
        x.append(0, 0, 6);
        due("6: count after an append", x.count(), 4);
        x.strike(5);
        due("6: count after a strike", x.count(), 3);
        due("6: count of 64 rows", full().count(), 64);
    }

    private static void sum() {
        ColumnStore x = sample();
        due("7: sum(0)", x.sum(0), 120);
        due("7: sum(1)", x.sum(1), -12);
        due("7: sum(2)", x.sum(2), 22);
        x.range(1, -4, -2);
        due("7: sum(0) under a range", x.sum(0), 60);
        due("7: sum(1) under a range", x.sum(1), -6);
        due("7: sum(2) under a range", x.sum(2), 12);
        for (int column : WRONG_COLUMNS) {
            due("7: sum(" + column + ")", x.sum(column), 0);
        }
        x.range(1, 1, 0);
        due("7: sum if none passes", x.sum(0), 0);
    }

    private static void sumBeyondInt() {
        ColumnStore x = new ColumnStore();
        for (int row = 0; row < 64; row++) {
            x.append(MAX, MIN, row % 2 == 0 ? MAX : MIN);
        }
        due("7: sum of 64 greatest ints", x.sum(0), 64L * MAX);
        due("7: sum of 64 least ints", x.sum(1), 64L * MIN);
        due("7: sum of both by turns", x.sum(2), -32);
    }

    private static void extreme() {
        ColumnStore x = sample();
        x.append(35, -9, 1);
        due("8: least of 0", x.extreme(0, false), 10);
        due("8: greatest of 0", x.extreme(0, true), 50);
        due("8: least of 1", x.extreme(1, false), -9);
        due("8: greatest of 1", x.extreme(1, true), -1);
        due("8: least of 2", x.extreme(2, false), 1);
        due("8: greatest of 2", x.extreme(2, true), 7);
        x.strike(4);
        due("8: greatest without a struck row", x.extreme(0, true), 40);
        x.strike(0);
        due("8: least without a struck row", x.extreme(0, false), 20);
        x.range(2, 0, 5);
        due("8: greatest under a range", x.extreme(0, true), 35);
        due("8: greatest of 1 under a range", x.extreme(1, true), -2);
        for (int column : WRONG_COLUMNS) {
            due("8: extreme(" + column + ", false)", x.extreme(column, false), 0);
            due("8: extreme(" + column + ", true)", x.extreme(column, true), 0);
        }
        x.range(0, 1, 0);
        due("8: least if none passes", x.extreme(0, false), 0);
        due("8: greatest if none passes", x.extreme(0, true), 0);
    }

    private static void extremeOfOneSign() {
        ColumnStore x = new ColumnStore();
        x.append(MAX, MIN, MIN);
        due("8: least is the greatest int", x.extreme(0, false), MAX);
        due("8: greatest is the least int", x.extreme(1, true), MIN);
        x.append(MAX - 1, MIN + 1, MAX);
        due("8: least of all above zero", x.extreme(0, false), MAX - 1);
        due("8: greatest of all below zero", x.extreme(1, true), MIN + 1);
        due("8: least far apart", x.extreme(2, false), MIN);
        due("8: greatest far apart", x.extreme(2, true), MAX);
    }

    private static void passing() {
        ColumnStore x = sample();
        int[] all = {0, 1, 3, 4};
        for (int place = 0; place < all.length; place++) {
            due("9: passing(" + place + ")", x.passing(place), all[place]);
        }
        due("9: passing(4) of 4", x.passing(4), -1);
        x.range(2, 5, 5);
        int[] some = {0, 1, 4};
        for (int place = 0; place < some.length; place++) {
            due("9: passing(" + place + ") under a range", x.passing(place), some[place]);
        }
        due("9: passing(3) of 3", x.passing(3), -1);
        ColumnStore y = full();
        due("9: passing(63) of 64", y.passing(63), 63);
        due("9: passing(64) of 64", y.passing(64), -1);
    }

    private static void passingWrongPlaces() {
        ColumnStore x = sample();
        for (int place : new int[] {-1, -2, -64, 5, 64, MIN, MAX}) {
            due("9: passing(" + place + ")", x.passing(place), -1);
        }
        x.range(0, 1, 0);
        due("9: passing(0) if none passes", x.passing(0), -1);
    }

    private static void value() {
        ColumnStore x = sample();
        due("10: value(0, 0)", x.value(0, 0), 10);
        due("10: value(1, 1)", x.value(1, 1), -2);
        due("10: value(4, 2)", x.value(4, 2), 5);
        due("10: value of a struck row", x.value(2, 0), 30);
        due("10: value of a struck row", x.value(2, 1), -3);
        due("10: value of a struck row", x.value(2, 2), 6);
        x.range(0, 1, 0);
        due("10: value of a row that does not pass", x.value(3, 2), 7);
    }

    private static void valueWrongPlaces() {
        ColumnStore x = full();
        for (int column : WRONG_COLUMNS) {
            for (int row : new int[] {1, 62, 63}) {
                due("10: value(" + row + ", " + column + ")", x.value(row, column), 0);
            }
        }
        for (int row : new int[] {-1, 64, 65, MIN, MAX, MAX / 3 + 1}) {
            for (int column = -1; column <= 3; column++) {
                due("10: value(" + row + ", " + column + ")", x.value(row, column), 0);
            }
        }
        ColumnStore y = sample();
        due("10: value of the row after the last", y.value(5, 0), 0);
    }

    private static void different() {
        ColumnStore x = sample();
        due("11: different(0)", x.different(0), 4);
        due("11: different(1)", x.different(1), 4);
        due("11: different(2)", x.different(2), 2);
        x.append(30, -3, 6);
        due("11: a value that a struck row has too", x.different(2), 3);
        x.range(0, 20, 60);
        due("11: a value whose first row does not pass", x.different(2), 3);
        x.range(1, -5, -4);
        due("11: different(2) under two ranges", x.different(2), 2);
        for (int column : WRONG_COLUMNS) {
            due("11: different(" + column + ")", x.different(column), -1);
        }
        x.range(1, 1, 0);
        due("11: different if none passes", x.different(0), 0);
        ColumnStore y = full();
        due("11: 64 different", y.different(0), 64);
        due("11: 7 different", y.different(2), 7);
        ColumnStore z = new ColumnStore();
        z.append(0, MIN, 5);
        z.append(0, MAX, -5);
        z.append(0, MIN, 5);
        due("11: zeros are one value", z.different(0), 1);
        due("11: least and greatest int", z.different(1), 2);
        due("11: opposite signs", z.different(2), 2);
    }

    private static void live() {
        ColumnStore x = sample();
        due("12: live", x.live(), 4);
        x.range(0, 1, 0);
        due("12: live though none passes", x.live(), 4);
        x.strike(3);
        due("12: live after a strike", x.live(), 3);
        x.append(1, 2, 3);
        due("12: live after an append", x.live(), 4);
        due("12: live of 64", full().live(), 64);
    }

    private static void questionsChangeNothing() {
        ColumnStore x = sample();
        x.range(2, 5, 5);
        for (int time = 0; time < 3; time++) {
            due("6: count again", x.count(), 3);
            due("7: sum again", x.sum(0), 80);
            due("8: least again", x.extreme(1, false), -5);
            due("8: greatest again", x.extreme(1, true), -1);
            due("9: passing again", x.passing(2), 4);
            due("10: value again", x.value(2, 0), 30);
            due("11: different again", x.different(2), 1);
            due("12: live again", x.live(), 4);
        }
    }
}
