import java.util.Arrays;

/** The boundary cases of the nineteen steps: one place too few or too many, set cells, what comes first. */
public final class BoundaryStepsTest extends Boundary {
    public static void main(String[] args) {
        new BoundaryStepsTest().runAll(0, 0);
    }

    /** A new grid with just this step on. */
    private static HumanSteps only(int step, int kind) {
        HumanSteps x = new HumanSteps(kind);
        Grids.switchAll(x, false);
        x.enable(step, true);
        return x;
    }

    private void dueNone(String when, HumanSteps x) {
        check.due("find() " + when, x.find(), -1);
    }

    private void due(String when, HumanSteps x, int step, String reason) {
        check.due("find() " + when, x.find(), step);
        check.due("reason " + when, Grids.reason(x), reason);
    }

    private void due(String when, HumanSteps x, int step, String reason, String goes) {
        due(when, x, step, reason);
        check.due("what goes " + when, Grids.goes(x), goes);
    }

    @Sentence(promise = 0, says = "0 LAST: open cells with one candidate: it is set.")
    void last() {
        HumanSteps x = only(0, 0);
        x.set(0, 0);
        dueNone("with a set cell's one candidate", x);
        Grids.leave(x, 15, 0, 3);
        dueNone("with two candidates", x);
        x.take(15, 0);
        due("with one candidate", x, 0, "15", "15 31 43 47 51 55 59");
    }

    @Sentence(promise = 0, says = "with just one place, an open cell: it is set.")
    void onePlace() {
        for (int step = 1; step <= 3; step++) {
            int[][] houses = {{10, 11, 14, 15}, {8, 9, 10, 11}, {2, 6, 10, 14}};
            int[] house = houses[step - 1];
            HumanSteps x = only(step, 0);
            x.set(0, 0);
            dueNone("with a set cell's one place", x);
            for (int cell : house) {
                if (cell != 10 && cell != house[3]) {
                    x.take(cell, 3);
                }
            }
            if (house[3] != 10) {
                dueNone("with two places", x);
                x.take(house[3], 3);
            }
            due("with one place", x, step, house[0] + " " + house[1] + " " + house[2] + " " + house[3]);
            check.due("found(3)", x.found(3), 10);
        }
    }

    @Sentence(promise = 0, says = "4 POINTING: boxes, symbols with two places or more: all in one row")
    void pointing() {
        HumanSteps x = only(4, 2);
        Grids.takeFrom(x, 5, 9, 10, 11, 18, 19);
        dueNone("with a place out of the line", x);
        x.take(20, 5);
        due("with three places", x, 4, "0 1 2", "32 41 50 59 68 77");
        x.take(1, 5);
        due("with two places", x, 4, "0 2", "32 41 50 59 68 77");
        x.take(0, 5);
        dueNone("with one place", x);
    }

    @Sentence(promise = 0, says = "or (if not) all in one column: the symbol is taken from that line's other cells.")
    void pointingDown() {
        HumanSteps x = only(4, 1);
        Grids.takeFrom(x, 5, 27, 28, 33, 34);
        due("with two places in a column", x, 4, "29 35", "35 71 107 143");
        x.take(29, 5);
        dueNone("with one place", x);
        x = only(4, 0);
        Grids.takeFrom(x, 0, 0, 5);
        dueNone("with two places that share no line", x);
    }

    @Sentence(promise = 0, says = "symbols with two places or more, all in one box: taken from the box's other cells.")
    void claiming() {
        HumanSteps x = only(5, 2);
        Grids.leaveInColumn(x, 8, 8, 0, 1, 2, 3);
        dueNone("with a place in another box", x);
        x.take(35, 8);
        due("with three places", x, 5, "8 17 26", "62 71 143 152 224 233");
        x.take(17, 8);
        due("with two places", x, 5, "8 26", "62 71 143 152 224 233");
        x.take(8, 8);
        dueNone("with one place", x);
    }

    @Sentence(promise = 0, says = "sets of 2 (3, 4) open cells whose candidates together are as many symbols")
    void nakedSets() {
        for (int size = 2; size <= 4; size++) {
            HumanSteps x = only(size + 4, 2);
            for (int cell = 0; cell < size; cell++) {
                Grids.leave(x, 2 * cell, cell, (cell + 1) % size, 8);
            }
            dueNone("with one symbol too many", x);
            for (int cell = 0; cell < size; cell++) {
                x.take(2 * cell, 8);
            }
            due("with as many", x, size + 4, "0 2 4 6".substring(0, 2 * size - 1));
        }
        HumanSteps alike = only(6, 0);
        Grids.leave(alike, 0, 0);
        Grids.leave(alike, 1, 0);
        dueNone("with one symbol in two cells", alike);
        HumanSteps set = only(6, 0);
        set.set(0, 0);
        Grids.leave(set, 1, 1);
        dueNone("with a set cell and an open one", set);
        Grids.leave(set, 2, 1, 2);
        due("with two open cells", set, 6, "1 2", "13 14");
    }

    /** Four cells of a house of four leave none to take from. */
    @Sentence(promise = 0, says = "these are taken from the house's other cells.")
    void quads() {
        HumanSteps x = only(8, 0);
        dueNone("with four cells of four", x);
        x = only(8, 1);
        for (int place = 0; place < 4; place++) {
            Grids.leave(x, 6 * place, place, place + 1);
        }
        dueNone("with five symbols in four cells", x);
        x.take(18, 4);
        due("with four symbols in four cells", x, 8, "0 6 12 18", "144 145 146 147 180 181 182 183");
    }

    @Sentence(promise = 0, says = "sets of 2 (3) open symbols whose places together are as many cells")
    void hiddenSets() {
        HumanSteps x = only(9, 2);
        Grids.leaveInRow(x, 0, 0, 0);
        Grids.leaveInRow(x, 0, 1, 0);
        dueNone("with one cell for two symbols", x);
        x = only(9, 2);
        x.set(0, 0);
        Grids.leaveInRow(x, 0, 1, 1);
        dueNone("with a symbol that is set and an open one", x);
        x = only(10, 2);
        Grids.leaveInRow(x, 8, 6, 0, 4);
        Grids.leaveInRow(x, 8, 7, 4, 8);
        Grids.leaveInRow(x, 8, 8, 0, 7, 8);
        dueNone("with four cells for three symbols", x);
        x.take(79, 8);
        due("with three cells for three symbols", x, 10, "72 76 80",
            "648 649 650 651 652 653 684 685 686 687 688 689 720 721 722 723 724 725");
    }

    @Sentence(promise = 0, says = "sets of 2 (3) rows in each of which the symbol has two places or more")
    void linesOfOnePlace() {
        HumanSteps x = only(11, 2);
        Grids.leaveInRow(x, 0, 0, 0);
        Grids.leaveInRow(x, 4, 0, 0, 4);
        dueNone("with a row of one place", x);
        x = only(12, 2);
        Grids.leaveInColumn(x, 0, 0, 0);
        Grids.leaveInColumn(x, 4, 0, 0, 4);
        dueNone("with a column of one place", x);
        x = only(13, 2);
        Grids.leaveInRow(x, 0, 0, 0);
        Grids.leaveInRow(x, 4, 0, 0, 4);
        Grids.leaveInRow(x, 8, 0, 4, 8);
        dueNone("with a row of one place among three", x);
        x = only(14, 2);
        Grids.leaveInColumn(x, 0, 0, 0);
        Grids.leaveInColumn(x, 4, 0, 0, 4);
        Grids.leaveInColumn(x, 8, 0, 4, 8);
        dueNone("with a column of one place among three", x);
    }

    @Sentence(promise = 0, says = "all these together in as many columns")
    void linesAcross() {
        HumanSteps x = only(11, 1);
        Grids.leaveInRow(x, 0, 5, 0, 3);
        Grids.leaveInRow(x, 5, 5, 0, 3, 5);
        dueNone("with three columns for two rows", x);
        x.take(35, 5);
        due("with two columns for two rows", x, 11, "0 3 30 33", "41 59 77 95 113 131 149 167");
        x = only(13, 2);
        Grids.leaveInRow(x, 0, 0, 0, 4);
        Grids.leaveInRow(x, 4, 0, 0, 4);
        Grids.leaveInRow(x, 8, 0, 0, 4);
        dueNone("with two columns for three rows", x);
        x = only(14, 0);
        Grids.takeFrom(x, 2, 12, 13);
        dueNone("with four rows for three columns", x);
        x.take(14, 2);
        due("with three rows for three columns", x, 14, "0 1 2 4 5 6 8 9 10", "14 30 46");
    }

    @Sentence(promise = 0, says = "15 WING: a cell with two candidates, two cells that it sees, with two each")
    void wing() {
        HumanSteps x = only(15, 2);
        Grids.leave(x, 40, 0, 1);
        Grids.leave(x, 4, 0, 2);
        Grids.leave(x, 44, 1, 2, 3);
        dueNone("with three candidates at one end", x);
        x.take(44, 3);
        due("with two at each", x, 15, "4 40 44", "74");
        x.take(8, 2);
        dueNone("with nothing to take", x);
        x = only(15, 2);
        Grids.leave(x, 40, 0, 1);
        Grids.leave(x, 4, 0, 2);
        Grids.leave(x, 80, 1, 2);
        dueNone("with an end that is not seen", x);
        x = only(15, 2);
        Grids.leave(x, 40, 0, 1);
        Grids.leave(x, 4, 0, 2);
        Grids.leave(x, 44, 1, 3);
        dueNone("with four symbols", x);
        x = only(15, 2);
        Grids.leave(x, 40, 0, 1);
        Grids.leave(x, 4, 0, 2);
        Grids.leave(x, 44, 0, 2);
        dueNone("with the same two at both ends", x);
    }

    @Sentence(promise = 0, says = "c is taken from all cells that see all three.")
    void greatWing() {
        HumanSteps x = only(16, 2);
        Grids.leave(x, 40, 0, 1, 2);
        Grids.leave(x, 4, 0, 2);
        Grids.leave(x, 44, 1, 2);
        dueNone("with no cell that sees all three", x);
        x = only(16, 2);
        Grids.leave(x, 40, 0, 1, 2, 3);
        Grids.leave(x, 30, 0, 2);
        Grids.leave(x, 44, 1, 2);
        dueNone("with four candidates", x);
        x.take(40, 3);
        due("with three candidates", x, 16, "30 40 44", "353 371");
        x = only(15, 2);
        Grids.leave(x, 40, 0, 1, 2);
        Grids.leave(x, 30, 0, 2);
        Grids.leave(x, 44, 1, 2);
        dueNone("of the wing with three candidates", x);
    }

    @Sentence(promise = 0, says = "LINKS join the two places of a house in which a symbol has just two.")
    void links() {
        HumanSteps x = only(17, 0);
        Grids.takeFrom(x, 3, 0);
        dueNone("with three places", x);
        x.take(1, 3);
        due("with two places", x, 17, "2 3", "27 31");
        x = only(17, 0);
        x.set(0, 0);
        dueNone("with one place", x);
    }

    @Sentence(promise = 0, says = "three of them have just the same two candidates, the fourth one these and others")
    void onlyOneAnswer() {
        int[] corners = {0, 1, 12, 13};
        for (int fourth = 0; fourth < 4; fourth++) {
            HumanSteps x = only(18, 0);
            for (int i = 0; i < 4; i++) {
                if (i != fourth) {
                    Grids.leave(x, corners[i], 1, 2);
                }
            }
            int cell = corners[fourth];
            due("with four candidates", x, 18, "0 1 12 13", (4 * cell + 1) + " " + (4 * cell + 2));
            x.take(cell, 0);
            due("with three candidates", x, 18, "0 1 12 13", (4 * cell + 1) + " " + (4 * cell + 2));
            x.take(cell, 3);
            dueNone("with the same two in all four", x);
        }
    }

    @Sentence(promise = 0, says = "the fourth one these and others: the two are taken from the fourth.")
    void onlyOneAnswerNeedsBoth() {
        HumanSteps x = only(18, 0);
        Grids.leave(x, 0, 1, 2);
        Grids.leave(x, 1, 1, 2);
        Grids.leave(x, 12, 1, 2);
        Grids.leave(x, 13, 0, 2, 3);
        dueNone("with one of the two missing", x);
        x = only(18, 0);
        Grids.leave(x, 0, 1, 2);
        Grids.leave(x, 1, 1, 2);
        Grids.leave(x, 12, 1, 3);
        dueNone("with another two in the third", x);
    }

    @Sentence(promise = 0, says = "that set which has the lesser number first where they differ")
    void orderOfSets() {
        HumanSteps x = only(6, 2);
        Grids.leave(x, 73, 2, 3);
        Grids.leave(x, 74, 2, 3);
        Grids.leave(x, 72, 0, 1);
        Grids.leave(x, 80, 0, 1);
        due("of two pairs", x, 6, "72 80");
        x = only(7, 2);
        int[][] two = {{0, 1}, {1, 2}, {0, 2}};
        for (int i = 0; i < 3; i++) {
            Grids.leave(x, new int[] {0, 1, 8}[i], two[i]);
            Grids.leave(x, new int[] {2, 3, 4}[i], two[i][0] + 3, two[i][1] + 3);
        }
        due("of two triples", x, 7, "0 1 8");
        x = only(9, 2);
        Grids.leaveInRow(x, 0, 1, 0, 3);
        Grids.leaveInRow(x, 0, 2, 0, 3);
        Grids.leaveInRow(x, 0, 0, 5, 8);
        Grids.leaveInRow(x, 0, 8, 5, 8);
        due("of two hidden pairs", x, 9, "5 8");
        x = only(11, 2);
        Grids.leaveInRow(x, 1, 4, 2, 5);
        Grids.leaveInRow(x, 3, 4, 2, 5);
        Grids.leaveInRow(x, 0, 4, 0, 7);
        Grids.leaveInRow(x, 8, 4, 0, 7);
        due("of two sets of two rows", x, 11, "0 7 72 79");
    }

    @Sentence(promise = 0, says = "or takes at least one candidate that is there, is found.")
    void passedBy() {
        HumanSteps x = only(6, 0);
        Grids.leave(x, 0, 0, 1);
        Grids.leave(x, 1, 0, 1);
        Grids.leave(x, 2, 2, 3);
        Grids.leave(x, 3, 2, 3);
        due("with nothing to take in the row", x, 6, "0 1", "16 17 20 21");
        Grids.takeFrom(x, 0, 4, 5);
        Grids.takeFrom(x, 1, 4);
        due("with one candidate to take", x, 6, "0 1", "21");
        x.take(5, 1);
        due("with none to take", x, 6, "4 5", "26 27 30 31");
    }

    // From the first house to the last, the first symbol to the last.

    /** Takes a symbol from all cells of a house but those at these places. */
    private static void leaveInHouse(HumanSteps x, int kind, int house, int symbol, int... places) {
        for (int place = 0; place < SIZES[kind]; place++) {
            if (!Grids.holds(places, place)) {
                x.take(cellOf(kind, house, place), symbol);
            }
        }
    }

    private static String cellsAt(int kind, int house, int... places) {
        StringBuilder text = new StringBuilder();
        for (int place : places) {
            text.append(text.length() == 0 ? "" : " ").append(cellOf(kind, house, place));
        }
        return text.toString();
    }

    @Sentence(promise = 0, says = "1 IN BOX, 2 IN ROW, 3 IN COLUMN: houses, symbols")
    void onePlaceAnywhere() {
        int[] steps = {2, 3, 1};
        for (int house = 0; house < 18; house++) {
            for (int symbol = 0; symbol < 6; symbol++) {
                for (int place = 0; place < 6; place++) {
                    HumanSteps x = only(steps[house / 6], 1);
                    leaveInHouse(x, 1, house, symbol, place);
                    due("in house " + house, x, steps[house / 6], cellsAt(1, house, 0, 1, 2, 3, 4, 5));
                    check.due("found(3)", x.found(3), cellOf(1, house, place));
                    check.due("found(4)", x.found(4), symbol);
                }
            }
        }
    }

    @Sentence(promise = 0, says = "4 POINTING: boxes, symbols with two places or more")
    void pointingAnywhere() {
        int[][] lines = {{0, 1, 2}, {3, 4, 5}, {0, 3}, {1, 4}, {2, 5}};
        for (int box = 12; box < 18; box++) {
            for (int symbol = 0; symbol < 6; symbol++) {
                for (int[] line : lines) {
                    HumanSteps x = only(4, 1);
                    leaveInHouse(x, 1, box, symbol, line);
                    due("in box " + box, x, 4, cellsAt(1, box, line));
                    check.due("found(2)", x.found(2), line.length == 3 ? 3 : 4);
                }
            }
        }
    }

    @Sentence(promise = 0, says = "5 CLAIMING: rows, then columns, symbols with two places or more, all in one box")
    void claimingAnywhere() {
        for (int line = 0; line < 12; line++) {
            int inBox = line < 6 ? 3 : 2;
            for (int symbol = 0; symbol < 6; symbol++) {
                for (int first = 0; first < 6; first += inBox) {
                    HumanSteps x = only(5, 1);
                    leaveInHouse(x, 1, line, symbol, first, first + 1, first + inBox - 1);
                    String reason = inBox == 2 ? cellsAt(1, line, first, first + 1)
                        : cellsAt(1, line, first, first + 1, first + 2);
                    due("in line " + line, x, 5, reason);
                    check.due("found(2)", x.found(2), 6 - inBox);
                }
            }
        }
    }

    @Sentence(promise = 0, says = "6 PAIR, 7 TRIPLE, 8 QUAD: houses, sets of 2 (3, 4) open cells")
    void pairsAnywhere() {
        for (int house = 0; house < 18; house++) {
            for (int lesser = 0; lesser < 6; lesser++) {
                for (int greater = lesser + 1; greater < 6; greater++) {
                    HumanSteps x = only(6, 1);
                    Grids.leave(x, cellOf(1, house, lesser), 0, 5);
                    Grids.leave(x, cellOf(1, house, greater), 0, 5);
                    due("in house " + house, x, 6, cellsAt(1, house, lesser, greater));
                    check.due("found(2)", x.found(2), 8);
                }
            }
        }
    }

    @Sentence(promise = 0, says = "9 HIDDEN PAIR, 10 HIDDEN TRIPLE: houses, sets of 2 (3) open symbols")
    void hiddenPairsAnywhere() {
        for (int house = 0; house < 18; house++) {
            for (int lesser = 0; lesser < 6; lesser++) {
                for (int greater = lesser + 1; greater < 6; greater++) {
                    HumanSteps x = only(9, 1);
                    leaveInHouse(x, 1, house, lesser, 5 - greater, 5 - lesser);
                    leaveInHouse(x, 1, house, greater, 5 - greater, 5 - lesser);
                    due("in house " + house, x, 9, cellsAt(1, house, 5 - greater, 5 - lesser));
                    check.due("found(2)", x.found(2), 8);
                }
            }
        }
    }

    @Sentence(promise = 0, says = "11 TWO ROWS, 12 TWO COLUMNS, 13 THREE ROWS, 14 THREE COLUMNS: symbols")
    void linesAnywhere() {
        for (int symbol = 0; symbol < 6; symbol++) {
            for (int lesser = 0; lesser < 6; lesser++) {
                for (int greater = lesser + 1; greater < 6; greater++) {
                    // One place in each box, as two rows may be all of a box's rows.
                    dueLines(symbol, lesser, greater, lesser % 3, 3 + greater % 3);
                    dueLines(symbol, lesser, greater, 0, 5);
                }
            }
        }
    }

    private void dueLines(int symbol, int lesser, int greater, int first, int second) {
        HumanSteps rows = only(11, 1);
        leaveInHouse(rows, 1, lesser, symbol, first, second);
        leaveInHouse(rows, 1, greater, symbol, first, second);
        due("in rows " + lesser + " and " + greater, rows, 11,
            cellsAt(1, lesser, first, second) + " " + cellsAt(1, greater, first, second));
        check.due("found(2)", rows.found(2), 8);
        HumanSteps columns = only(12, 1);
        leaveInHouse(columns, 1, 6 + lesser, symbol, first, second);
        leaveInHouse(columns, 1, 6 + greater, symbol, first, second);
        due("in columns " + lesser + " and " + greater, columns, 12,
            cellsAt(1, first, lesser, greater) + " " + cellsAt(1, second, lesser, greater));
        check.due("found(2)", columns.found(2), 8);
    }

    @Sentence(promise = 0, says = "17 COLOURS: symbols; LINKS join the two places of a house")
    void linksAnywhere() {
        for (int house = 0; house < 18; house++) {
            for (int symbol = 0; symbol < 6; symbol++) {
                HumanSteps x = only(17, 1);
                leaveInHouse(x, 1, house, symbol, 0, 1);
                due("in house " + house, x, 17, cellsAt(1, house, 0, 1));
                boolean isColumn = house >= 6 && house < 12;
                check.due("found(2)", x.found(2), isColumn ? 4 : 3);
            }
        }
    }

    /** The least cell is light, and of two colours that both clash the light one goes. */
    @Sentence(promise = 0, says = "When two light ones see each other: the symbol is taken from all light ones")
    void coloursThatBothClash() {
        HumanSteps x = Grids.made(2, LONG_REASON);
        check.due("what goes", Grids.goes(x), "8 125 224 278 404 422 503 629 701");
        x = Grids.made(2, y -> Grids.leaveInRow(y, 0, 0, 0, 8), LONG_REASON);
        check.due("what goes behind another symbol's links", Grids.goes(x), "8 125 224 278 404 422 503 629 701");
        x = only(17, 2);
        int[][] columns = {{1, 7}, {2, 4}, {5, 6}, {3, 6}, {0, 8}, {0, 5}, {0, 3, 8}, {4, 6}, {1, 5}};
        for (int row = 0; row < 9; row++) {
            Grids.leaveInRow(x, row, 8, columns[row]);
        }
        due("without the first cell", x, 17, "1 7 11 13 23 24 30 33 36 44 45 50 54 57 62 67 69 73 77",
            "17 125 224 278 404 413 494 629 701");
    }

    /** Cell 33 is the last one that symbol 0 joins and the least one that symbol 1 joins. */
    @Sentence(promise = 0, says = "Of the cells joined by links (two or more), by the least one")
    void coloursBehindAnotherSymbol() {
        HumanSteps x = only(17, 2);
        Grids.leaveInRow(x, 3, 0, 3, 6);
        dueNone("with links of symbol 0 that take nothing", x);
        Grids.leaveInColumn(x, 0, 1, 4, 5);
        due("with cells 36 and 45 joined", x, 17, "36 45", "253 262 334 343 415 424");
        Grids.leaveInColumn(x, 6, 1, 3, 4);
        due("with cells 33 and 42 joined too", x, 17, "33 42", "307 316 388 397 469 478");
    }

    @Sentence(promise = 0, says = "By the first cell, then the lesser and the greater of the others.")
    void wingsAnywhere() {
        for (int first = 0; first < 36; first++) {
            for (int lesser = 0; lesser < 36; lesser++) {
                for (int greater = lesser + 1; greater < 36; greater++) {
                    if (sees(first, lesser) && sees(first, greater) && !sees(lesser, greater)) {
                        dueWing(15, first, lesser, greater);
                        dueWing(16, first, lesser, greater);
                    }
                }
            }
        }
    }

    private void dueWing(int step, int first, int lesser, int greater) {
        HumanSteps x = only(step, 1);
        Grids.leave(x, first, step == 15 ? new int[] {0, 5} : new int[] {0, 3, 5});
        Grids.leave(x, lesser, 0, 3);
        Grids.leave(x, greater, 3, 5);
        StringBuilder goes = new StringBuilder();
        for (int cell = 0; cell < 36; cell++) {
            boolean seesAll = sees(cell, lesser) && sees(cell, greater) && (step == 15 || sees(cell, first));
            if (seesAll && cell != first) {
                goes.append(goes.length() == 0 ? "" : " ").append(6 * cell + 3);
            }
        }
        if (goes.length() == 0) {
            dueNone("with no cell that sees the wing", x);
        } else {
            int[] three = {first, lesser, greater};
            Arrays.sort(three);
            due("from cell " + first, x, step, three[0] + " " + three[1] + " " + three[2], goes.toString());
        }
    }

    /** On a grid of 6 by 6. */
    private static boolean sees(int a, int b) {
        boolean sameBox = a / 12 == b / 12 && a % 6 / 3 == b % 6 / 3;
        return a != b && (a / 6 == b / 6 || a % 6 == b % 6 || sameBox);
    }

    @Sentence(promise = 0, says = "By the lesser row, the greater row, the lesser column, the greater.")
    void onlyOneAnswerAnywhere() {
        for (int upper = 0; upper < 6; upper++) {
            for (int lower = upper + 1; lower < 6; lower++) {
                for (int left = 0; left < 6; left++) {
                    for (int right = left + 1; right < 6; right++) {
                        dueRectangle(upper, lower, left, right);
                    }
                }
            }
        }
    }

    private void dueRectangle(int upper, int lower, int left, int right) {
        HumanSteps x = only(18, 1);
        int[] four = {6 * upper + left, 6 * upper + right, 6 * lower + left, 6 * lower + right};
        for (int i = 0; i < 3; i++) {
            Grids.leave(x, four[i], 0, 5);
        }
        if (upper / 2 == lower / 2 == (left / 3 == right / 3)) {
            dueNone("with four cells in one box or in four", x);
        } else {
            due("with four cells in two boxes", x, 18, four[0] + " " + four[1] + " " + four[2] + " " + four[3],
                6 * four[3] + " " + (6 * four[3] + 5));
        }
    }
}
