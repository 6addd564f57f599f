/** Each of the nineteen steps on grids laid out by hand; the answers are reckoned from the document. */
public final class StepsTest {
    private final Check check = new Check("StepsTest");

    public static void main(String[] args) {
        StepsTest test = new StepsTest();
        test.last();
        test.onlyPlaces();
        test.pointing();
        test.claiming();
        test.nakedSets();
        test.hiddenSets();
        test.singlesInSets();
        test.twoLines();
        test.threeLines();
        test.wings();
        test.coloursOthers();
        test.coloursLight();
        test.coloursDark();
        test.coloursBothAtOnce();
        test.onlyOneAnswer();
        test.firstPlaces();
        test.check.end();
    }

    private void due(HumanSteps x, int step, String reason, String goes) {
        check.due("find()", x.find(), step);
        check.due("found(0)", x.found(0), step);
        check.due("reason of step " + step, Grids.reason(x), reason);
        check.due("what goes by step " + step, Grids.goes(x), goes);
        check.due("found(1)", x.found(1), reason.split(" ").length);
        check.due("found(2)", x.found(2), goes.isEmpty() ? 0 : goes.split(" ").length);
        if (step > 3) {
            check.due("found(3)", x.found(3), -1);
            check.due("found(4)", x.found(4), -1);
        }
    }

    private void dueSet(HumanSteps x, int cell, int symbol) {
        check.due("found(3)", x.found(3), cell);
        check.due("found(4)", x.found(4), symbol);
    }

    private void last() {
        HumanSteps x = new HumanSteps(0);
        Grids.leave(x, 6, 1);
        due(x, 0, "6", "9 13 17 21 29 41 57");
        dueSet(x, 6, 1);
        x = Grids.allButOne();
        due(x, 0, "15", "");
        dueSet(x, 15, 0);
    }

    private void onlyPlaces() {
        HumanSteps x = new HumanSteps(1);
        Grids.takeFrom(x, 0, 3, 4, 5, 9, 11);
        due(x, 1, "3 4 5 9 10 11", "36 42 48 61 62 63 64 65 96 132 168 204");
        dueSet(x, 10, 0);
        x = new HumanSteps(0);
        Grids.leaveInRow(x, 2, 3, 1);
        due(x, 2, "8 9 10 11", "7 23 36 37 38 51 55");
        dueSet(x, 9, 3);
        x = new HumanSteps(0);
        Grids.leaveInColumn(x, 3, 0, 0);
        due(x, 3, "3 7 11 15", "0 4 8 13 14 15 24");
        dueSet(x, 3, 0);
    }

    private void pointing() {
        HumanSteps x = new HumanSteps(2);
        Grids.takeFrom(x, 4, 2, 9, 10, 11, 18, 19, 20);
        due(x, 4, "0 1", "31 40 49 58 67 76");
        x = new HumanSteps(2);
        Grids.takeFrom(x, 0, 30, 31, 39, 40, 48, 49);
        due(x, 4, "32 41 50", "45 126 207 531 612 693");
        x = new HumanSteps(1);
        Grids.takeFrom(x, 5, 12, 13, 18, 19);
        due(x, 4, "14 20", "17 53 161 197");
    }

    private void claiming() {
        HumanSteps x = new HumanSteps(2);
        Grids.leaveInRow(x, 0, 2, 3, 4, 5);
        due(x, 5, "3 4 5", "110 119 128 191 200 209");
        x = new HumanSteps(1);
        Grids.leaveInColumn(x, 4, 3, 2, 3);
        due(x, 5, "16 22", "93 105 129 141");
    }

    private void nakedSets() {
        HumanSteps x = new HumanSteps(2);
        Grids.leave(x, 10, 2, 5);
        Grids.leave(x, 13, 2, 5);
        due(x, 6, "10 13", "83 86 101 104 110 113 128 131 137 140 146 149 155 158");
        x = new HumanSteps(2);
        Grids.leave(x, 4, 0, 1);
        Grids.leave(x, 31, 1, 2);
        Grids.leave(x, 67, 0, 2);
        due(x, 7, "4 31 67", "117 118 119 198 199 200 360 361 362 441 442 443 522 523 524 684 685 686");
        x = new HumanSteps(2);
        Grids.leave(x, 60, 0, 1);
        Grids.leave(x, 61, 1, 2);
        Grids.leave(x, 70, 2, 3);
        Grids.leave(x, 80, 0, 3);
        due(x, 8, "60 61 70 80", "558 559 560 561 621 622 623 624 639 640 641 642 702 703 704 705 711 712 713 714");
    }

    private void hiddenSets() {
        HumanSteps x = new HumanSteps(2);
        Grids.leaveInRow(x, 0, 3, 1, 5);
        Grids.leaveInRow(x, 0, 7, 1, 5);
        due(x, 9, "1 5", "9 10 11 13 14 15 17 45 46 47 49 50 51 53");
        x = new HumanSteps(2);
        Grids.leaveInColumn(x, 0, 0, 0, 4);
        Grids.leaveInColumn(x, 0, 1, 4, 8);
        Grids.leaveInColumn(x, 0, 2, 0, 8);
        due(x, 10, "0 36 72", "3 4 5 6 7 8 327 328 329 330 331 332 651 652 653 654 655 656");
    }

    /** One of a pair may stand alone: its candidates together are still two. */
    private void singlesInSets() {
        HumanSteps x = new HumanSteps(0);
        Grids.leave(x, 1, 0);
        Grids.leave(x, 2, 0, 3);
        x.enable(0, false);
        due(x, 6, "1 2", "0 3 12 15");
        x = new HumanSteps(0);
        Grids.leaveInRow(x, 0, 1, 0);
        Grids.leaveInRow(x, 0, 2, 0, 3);
        Grids.switchAll(x, false);
        x.enable(9, true);
        due(x, 9, "0 3", "0 3 12 15");
    }

    private void twoLines() {
        HumanSteps x = new HumanSteps(2);
        Grids.leaveInRow(x, 1, 6, 2, 5);
        Grids.leaveInRow(x, 7, 6, 2, 5);
        due(x, 11, "11 14 65 68", "24 51 186 213 267 294 348 375 429 456 510 537 672 699");
        x = new HumanSteps(2);
        Grids.leaveInColumn(x, 1, 0, 2, 5);
        Grids.leaveInColumn(x, 7, 0, 2, 5);
        due(x, 12, "19 25 46 52", "162 180 189 198 207 216 234 405 423 432 441 450 459 477");
    }

    private void threeLines() {
        HumanSteps x = new HumanSteps(2);
        Grids.leaveInRow(x, 0, 8, 0, 4);
        Grids.leaveInRow(x, 4, 8, 4, 8);
        Grids.leaveInRow(x, 8, 8, 0, 8);
        due(x, 13, "0 4 40 44 72 80",
            "89 125 161 170 206 242 251 287 323 413 449 485 494 530 566 575 611 647");
        x = new HumanSteps(2);
        Grids.leaveInColumn(x, 0, 8, 0, 4);
        Grids.leaveInColumn(x, 4, 8, 4, 8);
        Grids.leaveInColumn(x, 8, 8, 0, 8);
        due(x, 14, "0 8 36 40 76 80",
            "17 26 35 53 62 71 341 350 359 377 386 395 665 674 683 701 710 719");
    }

    private void wings() {
        HumanSteps x = new HumanSteps(2);
        Grids.leave(x, 0, 0, 1);
        Grids.leave(x, 5, 0, 2);
        Grids.leave(x, 10, 1, 2);
        due(x, 15, "0 5 10", "11 20 110 119 128");
        x = new HumanSteps(2);
        Grids.leave(x, 0, 0, 1, 2);
        Grids.leave(x, 5, 0, 2);
        Grids.leave(x, 10, 1, 2);
        due(x, 16, "0 5 10", "11 20");
        x = new HumanSteps(2);
        Grids.leave(x, 80, 0, 1);
        Grids.leave(x, 75, 0, 2);
        Grids.leave(x, 70, 1, 2);
        due(x, 15, "70 75 80", "596 605 614 704 713");
        x.enable(15, false);
        check.due("find() without the wing", x.find(), -1);
    }

    private void coloursOthers() {
        HumanSteps x = new HumanSteps(2);
        Grids.leaveInRow(x, 0, 8, 0, 4);
        Grids.leaveInColumn(x, 4, 8, 0, 4);
        Grids.leaveInRow(x, 4, 8, 1, 4);
        due(x, 17, "0 4 37 40", "98 179 251 413");
    }

    private void coloursLight() {
        HumanSteps x = new HumanSteps(2);
        Grids.leaveInRow(x, 0, 8, 0, 5);
        Grids.leaveInColumn(x, 5, 8, 0, 4);
        Grids.leaveInRow(x, 4, 8, 1, 5);
        Grids.leaveInColumn(x, 1, 8, 1, 4);
        due(x, 17, "0 5 10 37 41", "8 98 377");
    }

    private void coloursDark() {
        HumanSteps x = new HumanSteps(2);
        Grids.leaveInRow(x, 4, 8, 0, 5);
        Grids.leaveInColumn(x, 5, 8, 0, 4);
        Grids.leaveInRow(x, 0, 8, 1, 5);
        Grids.leaveInColumn(x, 1, 8, 0, 3);
        due(x, 17, "1 5 28 36 41", "53 260 332");
    }

    /** A ring of five links: each of its cells is light and dark, so the symbol goes from them all. */
    private void coloursBothAtOnce() {
        HumanSteps x = new HumanSteps(2);
        Grids.leaveInRow(x, 0, 8, 0, 5);
        Grids.leaveInColumn(x, 5, 8, 0, 4);
        Grids.leaveInRow(x, 4, 8, 1, 5);
        Grids.leaveInColumn(x, 1, 8, 1, 4);
        Grids.takeFrom(x, 8, 9, 11, 18, 20);
        Grids.switchAll(x, false);
        x.enable(17, true);
        due(x, 17, "0 5 10 37 41", "8 53 98 341 377");
        check.due("apply()", x.apply(), true);
        check.due("find() on the broken grid", x.find(), -2);
    }

    private void onlyOneAnswer() {
        HumanSteps x = rectangle(0, 4, 9, 13);
        check.due("find() with step 18 off", x.find(), -1);
        x.enable(18, true);
        due(x, 18, "0 4 9 13", "117 118");
        x = rectangle(0, 1, 27, 28);
        x.enable(18, true);
        due(x, 18, "0 1 27 28", "252 253");
        x = rectangle(0, 1, 9, 10);
        x.enable(18, true);
        check.due("find() with four cells in one box", x.find(), -1);
        x = rectangle(0, 4, 36, 40);
        x.enable(18, true);
        check.due("find() with four cells in four boxes", x.find(), -1);
        x = rectangle(0, 4, 9, 13);
        x.enable(18, true);
        x.take(13, 5);
        check.due("find() with four alike", x.find(), -1);
    }

    private static HumanSteps rectangle(int a, int b, int c, int fourth) {
        HumanSteps x = new HumanSteps(2);
        Grids.switchAll(x, false);
        Grids.leave(x, a, 0, 1);
        Grids.leave(x, b, 0, 1);
        Grids.leave(x, c, 0, 1);
        Grids.leave(x, fourth, 0, 1, 5);
        return x;
    }

    /** Of two places the first in the order told is found, and one that does nothing is passed by. */
    private void firstPlaces() {
        HumanSteps x = new HumanSteps(2);
        Grids.leave(x, 0, 3, 4);
        Grids.leave(x, 1, 3, 4);
        due(x, 6, "0 1", "21 22 30 31 39 40 48 49 57 58 66 67 75 76");
        x.apply();
        x.enable(5, false);
        due(x, 6, "0 1", "84 85 93 94 102 103 165 166 174 175 183 184");
        x = new HumanSteps(2);
        Grids.leave(x, 8, 6, 7);
        Grids.leave(x, 80, 6, 7);
        Grids.leave(x, 72, 0, 1);
        Grids.leave(x, 79, 0, 1);
        check.due("find()", x.find(), 6);
        check.due("a row's pair before a column's", Grids.reason(x), "72 79");
        x = new HumanSteps(0);
        Grids.leave(x, 9, 2);
        Grids.leave(x, 3, 1);
        due(x, 0, "3", "1 5 9 25 29 45 61");
    }
}
