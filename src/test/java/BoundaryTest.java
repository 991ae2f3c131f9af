import java.util.Arrays;
import java.util.List;
import java.util.function.Supplier;
import java.util.function.ToLongFunction;

/**
 * One test for each sentence of the document that names a boundary case, told by the sentence's own words.
 * No object gets more than 512 calls, but in the test of what comes after them.
 */
public final class BoundaryTest {
    private static final int MIN = Integer.MIN_VALUE;
    private static final int MAX = Integer.MAX_VALUE;
    private static final int ROWS = 64;
    private static final int CALLS = 512;
    // 256 and 65536 would be 0 in a byte or a short.
    private static final int[] NO_COLUMNS = {-1, 3, -2, 4, 256, 65536, MIN, MIN + 1, MAX - 1, MAX};
    // Three times the last two is 2 and 1, with wrap-around.
    private static final int[] NEVER_ROWS = {-1, 64, -2, 65, 192, 256, 65536, MIN, MAX, 1431655766, -1431655765};

    private static String sentence = "";
    private static int sentences = 0;
    private static int wrong = 0;

    public static void main(String[] args) {
        terms();
        changes();
        questions();
        System.out.println(sentences + " sentences, " + wrong + " wrong answers");
        if (wrong != 0) {
            System.exit(1);
        }
    }

    private static void terms() {
        test("an object is used for at most 512 calls", BoundaryTest::the512thCallIsAnswered);
        test("what later calls answer is free (but they end)", BoundaryTest::laterCallsEnd);
        test("rows are numbered from 0 in the order in which they are appended", BoundaryTest::rowsAreNumberedFrom0);
        test("there are at most 64", BoundaryTest::thereAre64Rows);
        test("a row has three columns, 0 to 2, with ints", BoundaryTest::columnsHoldAnyInt);
        test("a row is live until it is struck out", BoundaryTest::struckRowsStayStruck);
        test("at the start the filter has no range for any", BoundaryTest::noRangeAtTheStart);
        test("passes if it is live", BoundaryTest::struckRowsWithinRangesDoNotPass);
        test("for each column that has a range", BoundaryTest::everyRangeCounts);
        test("at least low", BoundaryTest::lowItselfPasses);
        test("at most high", BoundaryTest::highItselfPasses);
        test("if low is above high, no row passes", BoundaryTest::lowAboveHigh);
    }

    private static void changes() {
        test("1: no row", BoundaryTest::newObjectHasNoRow);
        test("1: no range", BoundaryTest::newObjectHasNoRange);
        test("2: answers its number", BoundaryTest::appendAnswersItsNumber);
        test("2: -1 if there are 64", BoundaryTest::appendTo64);
        test("2: -1 if there are 64, struck or not", BoundaryTest::appendTo64Struck);
        test("2: -1, and changes nothing", BoundaryTest::refusedAppendChangesNothing);
        test("3: strikes the first and the last row out", BoundaryTest::strikeFirstAndLast);
        test("3: -1 if there is no such row", BoundaryTest::strikeNoSuchRow);
        test("3: -1 if it is not live", BoundaryTest::strikeStruckRow);
        test("3: -1, and changes nothing, if there is no such row", BoundaryTest::refusedStrikeChangesNothing);
        test("3: -1, and changes nothing, if it is not live", BoundaryTest::secondStrikeChangesNothing);
        test("4: gives the column the range", BoundaryTest::rangeTakesTheFormerOnesPlace);
        test("4: answers 0 for any low and high", BoundaryTest::rangeTakesAnyLowAndHigh);
        test("4: -1 if column is not from 0 to 2", BoundaryTest::rangeOfNoColumn);
        test("4: -1, and changes nothing", BoundaryTest::refusedRangeChangesNothing);
        test("5: takes all ranges away", BoundaryTest::openTakesAllAway);
        test("5: takes all ranges away, if there is none", BoundaryTest::openWithoutRanges);
    }

    private static void questions() {
        test("6: how many rows pass, none to 64", BoundaryTest::countFromNoneToAll);
        test("7: the sum beyond an int", BoundaryTest::sumDoesNotWrapAround);
        test("7: the sum over no row", BoundaryTest::sumOfNone);
        test("7: 0 if column is not from 0 to 2", BoundaryTest::sumOfNoColumn);
        test("8: the least, at the ends of int", BoundaryTest::leastAtTheEnds);
        test("8: the greatest, at the ends of int", BoundaryTest::greatestAtTheEnds);
        test("8: 0 if none passes", BoundaryTest::extremeOfNone);
        test("8: 0 if column is not from 0 to 2", BoundaryTest::extremeOfNoColumn);
        test("9: so many passing rows before it", BoundaryTest::passingFromFirstToLast);
        test("9: -1 if there is none", BoundaryTest::passingNoSuchPlace);
        test("10: live or not", BoundaryTest::valueOfStruckRows);
        test("10: 0 if there is no such row", BoundaryTest::valueOfNoRow);
        test("10: 0 if there is no such column", BoundaryTest::valueOfNoColumn);
        test("11: how many different values, none to 64", BoundaryTest::differentFromNoneToAll);
        test("11: in the rows that pass", BoundaryTest::differentAmongPassingRows);
        test("11: -1 if column is not from 0 to 2", BoundaryTest::differentOfNoColumn);
        test("12: how many live rows, none to 64", BoundaryTest::liveFromNoneToAll);
        test("6 to 12: questions change nothing", BoundaryTest::questionsChangeNothing);
    }

    private static void test(String words, Runnable body) {
        sentence = words;
        sentences++;
        try {
            body.run();
        } catch (RuntimeException thrown) {
            wrong++;
            System.out.println("[" + sentence + "] " + thrown);
        }
    }

    private static void due(String call, long got, long want) {
        if (got != want) {
            wrong++;
            System.out.println("[" + sentence + "] " + call + " answered " + got + ", due is " + want);
        }
    }

    // ---- objects to ask

    /** Rows whose cells are all above 0 and all different, so that no cell can pass for another or for none. */
    private static ColumnStore filled(int rows) {
        ColumnStore x = new ColumnStore();
        for (int row = 0; row < rows; row++) {
            x.append(cellOf(row, 0), cellOf(row, 1), cellOf(row, 2));
        }
        return x;
    }

    private static int cellOf(int row, int column) {
        return 1000 * (column + 1) + row;
    }

    private static ColumnStore struck(ColumnStore x, int... rows) {
        for (int row : rows) {
            x.strike(row);
        }
        return x;
    }

    private static ColumnStore ranged(ColumnStore x, int column, int low, int high) {
        x.range(column, low, high);
        return x;
    }

    private static ColumnStore allStruck(int rows) {
        ColumnStore x = filled(rows);
        for (int row = 0; row < rows; row++) {
            x.strike(row);
        }
        return x;
    }

    /** A row for each value, which stands in one column; the other two hold what no test asks for. */
    private static ColumnStore ofColumn(int column, int... values) {
        ColumnStore x = new ColumnStore();
        for (int value : values) {
            x.append(column == 0 ? value : 77, column == 1 ? value : 78, column == 2 ? value : 79);
        }
        return x;
    }

    private static List<Supplier<ColumnStore>> smallTables() {
        return Arrays.asList(
            ColumnStore::new,
            () -> filled(1),
            () -> struck(filled(5), 0, 3),
            () -> allStruck(5),
            () -> ranged(struck(filled(9), 4), 0, 1002, 1006),
            () -> ranged(struck(filled(9), 4), 1, 2002, 2006),
            () -> ranged(struck(filled(9), 4), 2, 3002, 3006),
            () -> ranged(ranged(ranged(filled(9), 0, 1001, 1007), 1, 2002, 2006), 2, 3003, 3008),
            () -> ranged(filled(5), 2, 1, 0));
    }

    private static List<Supplier<ColumnStore>> fullTables() {
        return Arrays.asList(
            () -> filled(ROWS),
            () -> struck(filled(ROWS), 0, 31, 63),
            () -> allStruck(ROWS),
            () -> ranged(struck(filled(ROWS), 63), 0, 1010, 1063),
            () -> ranged(filled(ROWS), 2, 1, 0));
    }

    // ---- what a refused call leaves behind

    /** Calls after the refused one that would show what it left behind in the rows, the marks or the ranges. */
    private static List<ToLongFunction<ColumnStore>> nextCalls() {
        return Arrays.asList(
            x -> 0,
            x -> x.append(1003, 2003, 3003),
            x -> x.strike(0),
            x -> x.strike(4),
            x -> x.range(0, 1001, 1003),
            x -> x.range(1, 2001, 2003),
            x -> x.range(2, 3001, 3003),
            x -> {
                x.open();
                return 0;
            },
            x -> {
                long numbers = 0;
                for (int row = 0; row < ROWS; row++) {
                    numbers = numbers * 31 + x.append(row, row, row);
                }
                return numbers;
            });
    }

    /** Two objects made alike answer alike ever after, though one of them has had a call more. */
    private static void leavesNothing(Supplier<ColumnStore> made, String call, ToLongFunction<ColumnStore> more,
            long answer) {
        int number = 0;
        for (ToLongFunction<ColumnStore> next : nextCalls()) {
            ColumnStore touched = made.get();
            ColumnStore untouched = made.get();
            due(call, more.applyAsLong(touched), answer);
            due("next call " + number + " after " + call, next.applyAsLong(touched), next.applyAsLong(untouched));
            long[] want = allAnswers(untouched);
            long[] got = allAnswers(touched);
            int apart = Arrays.mismatch(got, want);
            if (apart >= 0) {
                due("question " + apart + " after " + call + " and next call " + number, got[apart], want[apart]);
            }
            number++;
        }
    }

    private static long[] allAnswers(ColumnStore x) {
        long[] answers = new long[14 + ROWS + 3 * ROWS];
        int n = 0;
        answers[n++] = x.live();
        answers[n++] = x.count();
        for (int column = 0; column < 3; column++) {
            answers[n++] = x.sum(column);
            answers[n++] = x.extreme(column, false);
            answers[n++] = x.extreme(column, true);
            answers[n++] = x.different(column);
        }
        for (int row = 0; row < ROWS; row++) {
            answers[n++] = x.passing(row);
            for (int column = 0; column < 3; column++) {
                answers[n++] = x.value(row, column);
            }
        }
        return answers;
    }

    // ---- the document's head and its terms

    private static void the512thCallIsAnswered() {
        ColumnStore x = allStruck(ROWS - 1);
        for (int call = 2 * (ROWS - 1); call < CALLS - 4; call++) {
            due("live()", x.live(), 0);
        }
        due("append", x.append(5, 6, 7), 63);
        due("range(1, 6, 6)", x.range(1, 6, 6), 0);
        due("strike(0)", x.strike(0), -1);
        due("the 512th call, sum(2)", x.sum(2), 7);
    }

    private static void laterCallsEnd() {
        ColumnStore x = new ColumnStore();
        for (int call = 0; call < 4 * CALLS; call++) {
            x.append(call, call, call);
            x.range(call % 5 - 1, call, call);
            x.strike(call - 1);
            x.open();
            allAnswers(x);
        }
    }

    private static void rowsAreNumberedFrom0() {
        ColumnStore x = new ColumnStore();
        due("the first append", x.append(11, 12, 13), 0);
        due("the second append", x.append(21, 22, 23), 1);
        due("value(0, 0)", x.value(0, 0), 11);
        due("value(1, 0)", x.value(1, 0), 21);
        due("passing(0)", x.passing(0), 0);
        due("passing(1)", x.passing(1), 1);
    }

    private static void thereAre64Rows() {
        ColumnStore x = filled(ROWS - 1);
        due("the 64th append", x.append(11, 12, 13), 63);
        due("the 65th append", x.append(21, 22, 23), -1);
        due("value(63, 0)", x.value(63, 0), 11);
        due("value(64, 0)", x.value(64, 0), 0);
        due("live()", x.live(), 64);
    }

    private static void columnsHoldAnyInt() {
        int[] ints = {MIN, MIN + 1, -65537, -129, -1, 0, 1, 128, 65536, MAX - 1, MAX};
        for (int column = 0; column < 3; column++) {
            ColumnStore x = ofColumn(column, ints);
            for (int row = 0; row < ints.length; row++) {
                for (int other = 0; other < 3; other++) {
                    due("value(" + row + ", " + other + ")", x.value(row, other),
                        other == column ? ints[row] : 77 + other);
                }
            }
        }
    }

    private static void struckRowsStayStruck() {
        ColumnStore x = filled(1);
        due("live() before", x.live(), 1);
        due("strike(0)", x.strike(0), 0);
        x.append(1, 2, 3);
        due("live() after an append", x.live(), 1);
        x.range(0, MIN, MAX);
        due("live() after a range", x.live(), 1);
        x.open();
        due("live() after open", x.live(), 1);
        x.strike(0);
        due("live() after a second strike", x.live(), 1);
        due("passing(0)", x.passing(0), 1);
    }

    private static void noRangeAtTheStart() {
        for (int column = 0; column < 3; column++) {
            ColumnStore x = ofColumn(column, MIN, -1, 0, 1, MAX);
            due("count()", x.count(), 5);
        }
    }

    private static void struckRowsWithinRangesDoNotPass() {
        ColumnStore x = struck(filled(3), 1);
        x.range(0, 1001, 1001);
        x.range(1, 2001, 2001);
        x.range(2, 3001, 3001);
        due("count()", x.count(), 0);
        due("passing(0)", x.passing(0), -1);
    }

    private static void everyRangeCounts() {
        for (int outside = 0; outside < 3; outside++) {
            ColumnStore x = new ColumnStore();
            x.append(5, 5, 5);
            for (int column = 0; column < 3; column++) {
                x.range(column, column == outside ? 6 : 5, 6);
            }
            due("count() outside the range of column " + outside, x.count(), 0);
            x.range(outside, 5, 6);
            due("count() within all ranges", x.count(), 1);
        }
    }

    private static void lowItselfPasses() {
        for (int column = 0; column < 3; column++) {
            for (int low : new int[] {MIN + 1, -1, 0, 1, MAX}) {
                ColumnStore x = ranged(ofColumn(column, low - 1, low), column, low, MAX);
                due("count() from " + low, x.count(), 1);
                due("passing(0) from " + low, x.passing(0), 1);
            }
            due("count() from the least int", ranged(ofColumn(column, MIN, MAX), column, MIN, MAX).count(), 2);
        }
    }

    private static void highItselfPasses() {
        for (int column = 0; column < 3; column++) {
            for (int high : new int[] {MIN, -1, 0, 1, MAX - 1}) {
                ColumnStore x = ranged(ofColumn(column, high + 1, high), column, MIN, high);
                due("count() up to " + high, x.count(), 1);
                due("passing(0) up to " + high, x.passing(0), 1);
            }
            due("count() up to low", ranged(ofColumn(column, 4, 5, 6), column, 5, 5).count(), 1);
        }
    }

    private static void lowAboveHigh() {
        int[][] lowHigh = {{1, 0}, {0, -1}, {6, 4}, {MAX, MIN}, {MIN + 1, MIN}, {MAX, MAX - 1}};
        for (int column = 0; column < 3; column++) {
            for (int[] range : lowHigh) {
                ColumnStore x = ofColumn(column, MIN, MIN + 1, -1, 0, 1, 4, 5, 6, MAX - 1, MAX);
                String call = "range(" + column + ", " + range[0] + ", " + range[1] + ")";
                due(call, x.range(column, range[0], range[1]), 0);
                due("count() after " + call, x.count(), 0);
                due("passing(0) after " + call, x.passing(0), -1);
                due("live() after " + call, x.live(), 10);
            }
        }
    }

    // ---- promises 1 to 5

    private static void newObjectHasNoRow() {
        ColumnStore x = new ColumnStore();
        due("live()", x.live(), 0);
        due("count()", x.count(), 0);
        due("passing(0)", x.passing(0), -1);
        due("strike(0)", x.strike(0), -1);
        due("value(0, 0)", x.value(0, 0), 0);
        due("append", x.append(1, 2, 3), 0);
        due("rows of a second new object", new ColumnStore().live(), 0);
    }

    private static void newObjectHasNoRange() {
        filled(1).range(0, 1, 0);
        ColumnStore x = new ColumnStore();
        x.append(MIN, MIN, MIN);
        x.append(MAX, MAX, MAX);
        x.append(0, 0, 0);
        due("count()", x.count(), 3);
    }

    private static void appendAnswersItsNumber() {
        ColumnStore x = new ColumnStore();
        x.range(0, 1, 0);
        for (int row = 0; row < ROWS; row++) {
            due("append", x.append(row, row, row), row);
            if (row % 3 == 0) {
                x.strike(row);
            }
        }
    }

    private static void appendTo64() {
        ColumnStore x = filled(ROWS);
        due("append", x.append(1, 2, 3), -1);
        due("append again", x.append(MIN, 0, MAX), -1);
    }

    private static void appendTo64Struck() {
        due("append with the first struck", struck(filled(ROWS), 0).append(1, 2, 3), -1);
        due("append with the last struck", struck(filled(ROWS), 63).append(1, 2, 3), -1);
        due("append with all struck", allStruck(ROWS).append(1, 2, 3), -1);
        due("append to 63 with all struck", allStruck(ROWS - 1).append(1, 2, 3), 63);
    }

    private static void refusedAppendChangesNothing() {
        for (Supplier<ColumnStore> made : fullTables()) {
            leavesNothing(made, "append(1, 2, 3)", x -> x.append(1, 2, 3), -1);
            leavesNothing(made, "append(1050, 2050, 3050)", x -> x.append(1050, 2050, 3050), -1);
        }
    }

    private static void strikeFirstAndLast() {
        for (int rows : new int[] {1, 2, 5, 63, 64}) {
            ColumnStore x = filled(rows);
            due("strike(" + (rows - 1) + ")", x.strike(rows - 1), 0);
            due("live()", x.live(), rows - 1);
            due("strike(0)", x.strike(0), rows == 1 ? -1 : 0);
            due("live()", x.live(), rows == 1 ? 0 : rows - 2);
        }
    }

    private static void strikeNoSuchRow() {
        for (int rows : new int[] {0, 1, 5, 63, 64}) {
            ColumnStore x = filled(rows);
            due("strike(" + rows + ") of " + rows, x.strike(rows), -1);
            due("strike(" + (rows + 1) + ") of " + rows, x.strike(rows + 1), -1);
            for (int row : NEVER_ROWS) {
                due("strike(" + row + ") of " + rows, x.strike(row), -1);
            }
            due("live()", x.live(), rows);
        }
    }

    private static void strikeStruckRow() {
        for (int row : new int[] {0, 1, 62, 63}) {
            ColumnStore x = struck(filled(ROWS), row);
            due("strike(" + row + ") again", x.strike(row), -1);
            due("strike(" + row + ") a third time", x.strike(row), -1);
            due("live()", x.live(), 63);
        }
    }

    private static void refusedStrikeChangesNothing() {
        for (int row : NEVER_ROWS) {
            for (Supplier<ColumnStore> made : smallTables()) {
                leavesNothing(made, "strike(" + row + ")", x -> x.strike(row), -1);
            }
            for (Supplier<ColumnStore> made : fullTables()) {
                leavesNothing(made, "strike(" + row + ")", x -> x.strike(row), -1);
            }
        }
        // Rows that are not there yet: the append that makes one of them makes it live.
        for (int row : new int[] {9, 10, 63}) {
            for (Supplier<ColumnStore> made : smallTables()) {
                leavesNothing(made, "strike(" + row + ")", x -> x.strike(row), -1);
            }
        }
        ColumnStore y = filled(2);
        due("strike(2) of 2", y.strike(2), -1);
        due("append", y.append(1, 2, 3), 2);
        due("live()", y.live(), 3);
        due("strike(2) of 3", y.strike(2), 0);
    }

    private static void secondStrikeChangesNothing() {
        leavesNothing(() -> struck(filled(1), 0), "strike(0)", x -> x.strike(0), -1);
        leavesNothing(() -> struck(filled(5), 0, 3), "strike(3)", x -> x.strike(3), -1);
        leavesNothing(() -> ranged(struck(filled(5), 2), 0, 1001, 1003), "strike(2)", x -> x.strike(2), -1);
        leavesNothing(() -> allStruck(ROWS), "strike(63)", x -> x.strike(63), -1);
    }

    private static void rangeTakesTheFormerOnesPlace() {
        for (int column = 0; column < 3; column++) {
            ColumnStore x = ofColumn(column, 1, 2, 3, 4);
            x.range(column, 1, 2);
            x.range(column, 3, 3);
            due("count() in 3 to 3", x.count(), 1);
            due("passing(0) in 3 to 3", x.passing(0), 2);
            x.range(column, 4, 2);
            due("count() in 4 to 2", x.count(), 0);
            x.range(column, 1, 4);
            due("count() in 1 to 4", x.count(), 4);
        }
    }

    private static void rangeTakesAnyLowAndHigh() {
        int[] ends = {MIN, -1, 0, 1, MAX};
        ColumnStore x = filled(2);
        for (int column = 0; column < 3; column++) {
            for (int low : ends) {
                for (int high : ends) {
                    due("range(" + column + ", " + low + ", " + high + ")", x.range(column, low, high), 0);
                }
            }
        }
        due("range of a new object", new ColumnStore().range(2, 0, 0), 0);
    }

    private static void rangeOfNoColumn() {
        ColumnStore x = filled(2);
        for (int column : NO_COLUMNS) {
            due("range(" + column + ", 0, 9000)", x.range(column, 0, 9000), -1);
            due("range(" + column + ", 1, 0)", x.range(column, 1, 0), -1);
            due("count()", x.count(), 2);
        }
    }

    private static void refusedRangeChangesNothing() {
        for (int column : NO_COLUMNS) {
            for (Supplier<ColumnStore> made : smallTables()) {
                leavesNothing(made, "range(" + column + ", 1, 0)", x -> x.range(column, 1, 0), -1);
                leavesNothing(made, "range(" + column + ", MIN, MAX)", x -> x.range(column, MIN, MAX), -1);
            }
        }
    }

    private static void openTakesAllAway() {
        for (int ranges = 1; ranges < 8; ranges++) {
            ColumnStore x = struck(filled(5), 1);
            for (int column = 0; column < 3; column++) {
                if ((ranges >> column & 1) == 1) {
                    x.range(column, 1, 0);
                }
            }
            due("count() before", x.count(), 0);
            x.open();
            due("count() after", x.count(), 4);
            x.append(MIN, MIN, MIN);
            x.append(MAX, MAX, MAX);
            due("count() with the ends of int", x.count(), 6);
        }
    }

    private static void openWithoutRanges() {
        for (Supplier<ColumnStore> made : Arrays.<Supplier<ColumnStore>>asList(
                ColumnStore::new, () -> struck(filled(5), 0, 3), () -> filled(ROWS))) {
            leavesNothing(made, "open()", x -> {
                x.open();
                return 0;
            }, 0);
        }
        ColumnStore y = ranged(filled(5), 0, 1, 0);
        y.open();
        y.open();
        due("count() after open twice", y.count(), 5);
    }

    // ---- promises 6 to 12

    private static void countFromNoneToAll() {
        due("count() of a new object", new ColumnStore().count(), 0);
        due("count() with all struck", allStruck(ROWS).count(), 0);
        due("count() of 64", filled(ROWS).count(), 64);
        for (int most = 0; most <= ROWS; most++) {
            ColumnStore x = ranged(filled(ROWS), 1, 2000, 1999 + most);
            due("count() of the first " + most, x.count(), most);
        }
    }

    private static void sumDoesNotWrapAround() {
        ColumnStore x = new ColumnStore();
        for (int row = 0; row < ROWS; row++) {
            x.append(MAX, MIN, row < 32 ? MAX : MIN);
        }
        due("sum(0)", x.sum(0), 64L * MAX);
        due("sum(1)", x.sum(1), 64L * MIN);
        due("sum(2)", x.sum(2), -32);
        ColumnStore y = ofColumn(0, MAX, 1);
        due("sum(0) just above an int", y.sum(0), MAX + 1L);
        ColumnStore z = ofColumn(2, MIN, -1);
        due("sum(2) just below an int", z.sum(2), MIN - 1L);
    }

    private static void sumOfNone() {
        for (int column = 0; column < 3; column++) {
            due("sum of a new object", new ColumnStore().sum(column), 0);
            due("sum with all struck", allStruck(5).sum(column), 0);
            due("sum in an empty range", ranged(filled(5), 1, 1, 0).sum(column), 0);
        }
    }

    private static void sumOfNoColumn() {
        ColumnStore x = filled(ROWS);
        for (int column : NO_COLUMNS) {
            due("sum(" + column + ")", x.sum(column), 0);
            due("sum(" + column + ") of a new object", new ColumnStore().sum(column), 0);
        }
    }

    private static void leastAtTheEnds() {
        for (int column = 0; column < 3; column++) {
            due("least of MAX alone", ofColumn(column, MAX).extreme(column, false), MAX);
            due("least of MAX and below", ofColumn(column, MAX, MAX - 1).extreme(column, false), MAX - 1);
            due("least of MAX and MIN", ofColumn(column, MAX, MIN).extreme(column, false), MIN);
            due("least of MIN and MAX", ofColumn(column, MIN, MAX).extreme(column, false), MIN);
            due("least of 1 and 0", ofColumn(column, 1, 0).extreme(column, false), 0);
            due("least of 0 and 1", ofColumn(column, 0, 1).extreme(column, false), 0);
            due("least without MIN", struck(ofColumn(column, 5, MIN, 6), 1).extreme(column, false), 5);
        }
        due("least of 64", filled(ROWS).extreme(0, false), 1000);
    }

    private static void greatestAtTheEnds() {
        for (int column = 0; column < 3; column++) {
            due("greatest of MIN alone", ofColumn(column, MIN).extreme(column, true), MIN);
            due("greatest of MIN and above", ofColumn(column, MIN, MIN + 1).extreme(column, true), MIN + 1);
            due("greatest of MIN and MAX", ofColumn(column, MIN, MAX).extreme(column, true), MAX);
            due("greatest of MAX and MIN", ofColumn(column, MAX, MIN).extreme(column, true), MAX);
            due("greatest of -1 and 0", ofColumn(column, -1, 0).extreme(column, true), 0);
            due("greatest of 0 and -1", ofColumn(column, 0, -1).extreme(column, true), 0);
            due("greatest without MAX", struck(ofColumn(column, 5, MAX, 4), 1).extreme(column, true), 5);
        }
        due("greatest of 64", filled(ROWS).extreme(0, true), 1063);
    }

    private static void extremeOfNone() {
        for (boolean greatest : new boolean[] {false, true}) {
            for (int column = 0; column < 3; column++) {
                due("extreme of a new object", new ColumnStore().extreme(column, greatest), 0);
                due("extreme with all struck", allStruck(5).extreme(column, greatest), 0);
                due("extreme in an empty range", ranged(filled(5), 1, 1, 0).extreme(column, greatest), 0);
            }
        }
    }

    private static void extremeOfNoColumn() {
        ColumnStore x = filled(ROWS);
        for (int column : NO_COLUMNS) {
            due("extreme(" + column + ", false)", x.extreme(column, false), 0);
            due("extreme(" + column + ", true)", x.extreme(column, true), 0);
            due("extreme(" + column + ", true) of a new object", new ColumnStore().extreme(column, true), 0);
        }
    }

    private static void passingFromFirstToLast() {
        ColumnStore all = filled(ROWS);
        ColumnStore odd = filled(ROWS);
        for (int row = 0; row < ROWS; row += 2) {
            odd.strike(row);
        }
        ColumnStore late = ranged(filled(ROWS), 2, 3040, 9999);
        for (int place = 0; place < ROWS; place++) {
            due("passing(" + place + ") of 64", all.passing(place), place);
            due("passing(" + place + ") of 32", odd.passing(place), place < 32 ? 2 * place + 1 : -1);
            due("passing(" + place + ") of 24", late.passing(place), place < 24 ? place + 40 : -1);
        }
    }

    private static void passingNoSuchPlace() {
        for (int rows : new int[] {0, 1, 5, 63, 64}) {
            ColumnStore x = filled(rows);
            due("passing(" + rows + ") of " + rows, x.passing(rows), -1);
            for (int place : new int[] {-1, -2, -64, 64, 65, 256, 65536, MIN, MAX}) {
                due("passing(" + place + ") of " + rows, x.passing(place), -1);
            }
            x.range(0, 1, 0);
            due("passing(0) in an empty range", x.passing(0), -1);
        }
        due("passing(0) with all struck", allStruck(ROWS).passing(0), -1);
        due("passing(4) of 4, one struck", struck(filled(5), 0).passing(4), -1);
    }

    private static void valueOfStruckRows() {
        ColumnStore x = ranged(allStruck(ROWS), 0, 1, 0);
        for (int row = 0; row < ROWS; row++) {
            for (int column = 0; column < 3; column++) {
                due("value(" + row + ", " + column + ")", x.value(row, column), cellOf(row, column));
            }
        }
    }

    private static void valueOfNoRow() {
        for (int rows : new int[] {0, 1, 5, 63, 64}) {
            ColumnStore x = filled(rows);
            for (int column = 0; column < 3; column++) {
                due("value(" + rows + ", " + column + ") of " + rows, x.value(rows, column), 0);
                for (int row : NEVER_ROWS) {
                    due("value(" + row + ", " + column + ") of " + rows, x.value(row, column), 0);
                }
            }
        }
        // The cell that row times three plus column would name is there.
        due("value(-1, 3)", filled(5).value(-1, 3), 0);
    }

    private static void valueOfNoColumn() {
        ColumnStore x = filled(5);
        for (int row = 0; row < 5; row++) {
            for (int column : NO_COLUMNS) {
                due("value(" + row + ", " + column + ")", x.value(row, column), 0);
            }
        }
        due("value(1, -3)", x.value(1, -3), 0);
        due("value(5, -1)", x.value(5, -1), 0);
    }

    private static void differentFromNoneToAll() {
        for (int column = 0; column < 3; column++) {
            due("different of a new object", new ColumnStore().different(column), 0);
            due("different with all struck", allStruck(ROWS).different(column), 0);
            due("different in an empty range", ranged(filled(5), 1, 1, 0).different(column), 0);
            due("different of one", filled(1).different(column), 1);
            due("different of 64", filled(ROWS).different(column), 64);
            due("different of zeros", ofColumn(column, 0, 0, 0).different(column), 1);
            due("different at the ends", ofColumn(column, MIN, MAX, -MAX, 0, MIN, MAX).different(column), 4);
            due("different, first and last alike", ofColumn(column, 8, 9, 8).different(column), 2);
        }
        ColumnStore same = new ColumnStore();
        for (int row = 0; row < ROWS; row++) {
            same.append(MIN, 0, row / 32);
        }
        due("different(0) of 64 alike", same.different(0), 1);
        due("different(1) of 64 alike", same.different(1), 1);
        due("different(2) of 32 and 32", same.different(2), 2);
    }

    private static void differentAmongPassingRows() {
        for (int column = 0; column < 3; column++) {
            due("a struck row's value is another's too",
                struck(ofColumn(column, 8, 8, 9), 0).different(column), 2);
            due("a struck row's value is no other's",
                struck(ofColumn(column, 7, 8, 9), 0).different(column), 2);
        }
        ColumnStore x = new ColumnStore();
        x.append(1, 8, 0);
        x.append(2, 8, 0);
        x.append(3, 9, 0);
        x.range(0, 2, 2);
        due("a value outside the range is another's too", x.different(1), 1);
    }

    private static void differentOfNoColumn() {
        for (int column : NO_COLUMNS) {
            due("different(" + column + ")", filled(5).different(column), -1);
            due("different(" + column + ") of a new object", new ColumnStore().different(column), -1);
            due("different(" + column + ") if none passes", allStruck(5).different(column), -1);
        }
    }

    private static void liveFromNoneToAll() {
        ColumnStore x = new ColumnStore();
        due("live() of a new object", x.live(), 0);
        x.range(0, 1, 0);
        for (int row = 0; row < ROWS; row++) {
            x.append(row, row, row);
            due("live()", x.live(), row + 1);
        }
        x.append(0, 0, 0);
        due("live() after a refused append", x.live(), 64);
        for (int row = 0; row < ROWS; row++) {
            x.strike(row);
            x.strike(row);
            due("live()", x.live(), 63 - row);
        }
    }

    private static void questionsChangeNothing() {
        for (Supplier<ColumnStore> made : smallTables()) {
            leavesNothing(made, "count()", ColumnStore::count, made.get().count());
            leavesNothing(made, "live()", ColumnStore::live, made.get().live());
            leavesNothing(made, "passing(0)", x -> x.passing(0), made.get().passing(0));
            leavesNothing(made, "passing(-1)", x -> x.passing(-1), -1);
            leavesNothing(made, "value(64, 0)", x -> x.value(64, 0), 0);
            leavesNothing(made, "value(0, 0)", x -> x.value(0, 0), made.get().value(0, 0));
            for (int column = 0; column < 3; column++) {
                int asked = column;
                leavesNothing(made, "sum", x -> x.sum(asked), made.get().sum(asked));
                leavesNothing(made, "least", x -> x.extreme(asked, false), made.get().extreme(asked, false));
                leavesNothing(made, "greatest", x -> x.extreme(asked, true), made.get().extreme(asked, true));
                leavesNothing(made, "different", x -> x.different(asked), made.get().different(asked));
            }
            for (int column : NO_COLUMNS) {
                leavesNothing(made, "sum(" + column + ")", x -> x.sum(column), 0);
                leavesNothing(made, "extreme(" + column + ", true)", x -> x.extreme(column, true), 0);
                leavesNothing(made, "value(0, " + column + ")", x -> x.value(0, column), 0);
                leavesNothing(made, "different(" + column + ")", x -> x.different(column), -1);
            }
        }
    }
}
