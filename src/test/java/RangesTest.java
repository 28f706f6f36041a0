/**
 * Each range's ends and what lies just outside them, each line of @throws, the order in which they
 * apply, and "A call that throws an exception changes nothing", which is looked at for each refused
 * call of this test: also what is in the log is compared with a twin that was not called.
 */
final class RangesTest {
    private static final Check CHECK = new Check();
    private static final Class<IndexOutOfBoundsException> NO_CELL = IndexOutOfBoundsException.class;
    private static final Class<IllegalArgumentException> BAD = IllegalArgumentException.class;
    private static final Class<IllegalStateException> STATE = IllegalStateException.class;
    private static final int LEAST = Integer.MIN_VALUE;
    private static final int MOST = Integer.MAX_VALUE;
    /** What would be 1 to 9 again if it were cut to 4, 5, 8 or 16 bits, or if its sign were lost. */
    private static final int[] NO_NUMBERS = {-1, 10, -9, -10, 11, 17, 33, 257, 265, 65537, LEAST, LEAST + 1, MOST};

    /** A way to the board on which a call is tried; each time a new one. */
    interface Start {
        FieldFiller board();
    }

    /** The call that is tried. */
    interface Step {
        Object on(FieldFiller x);
    }

    public static void main(String[] args) {
        rowsAndColumnsAreTwoToFour();
        atMostTwelveCells();
        productsThatWrapAround();
        for (int[] sides : Boards.LAYOUTS) {
            endsOfCells(sides[0], sides[1]);
            noSuchCell("empty", () -> Boards.of(Boards.emptyPicture(sides[0], sides[1])));
            noSuchCell("begun", () -> begun(sides[0], sides[1]));
            noSuchCell("full", () -> Boards.of(Boards.solvedPicture(sides[0], sides[1])));
            noSuchCell("filled", () -> filledWhole(sides[0], sides[1]));
        }
        noSuchCellAfterASmallerBoard();
        numbersAreOneToNine();
        clueNumbersAreZeroToNine();
        seeds();
        rules();
        mosts();
        clueOfABoardThatIsNotSound();
        fillOfACellThatIsNotEmpty();
        fillOfANumberThatCannotBePut();
        undoWhereNoneWasFilledIn();
        cellBeforeNumberBeforeState();
        CHECK.end();
    }

    private static void due(String what, Object got, Object due) {
        CHECK.same(what, got, due);
    }

    /** Checks that a call throws, and leaves all as it is with a twin that was not called. */
    private static void refused(String what, Class<? extends RuntimeException> due, Start start, Step step) {
        FieldFiller x = start.board();
        CHECK.refuses(what, due, () -> step.on(x));
        due(what + " changes nothing", Boards.lookAndUndo(x), Boards.lookAndUndo(start.board()));
    }

    /** A clue, a cell that was filled beside it, and one that was filled in the last cell before that. */
    private static FieldFiller begun(int rows, int columns) {
        FieldFiller x = new FieldFiller();
        int area = x.lay(rows, columns);
        x.clue(0, 3);
        x.fill(area - 1, 1);
        x.fill(1, 3);
        return x;
    }

    /** A solved board without a clue. */
    private static FieldFiller filledWhole(int rows, int columns) {
        FieldFiller x = new FieldFiller();
        x.lay(rows, columns);
        String numbers = Boards.solvedPicture(rows, columns).replace("/", "");
        for (int cell = numbers.length() - 1; cell >= 0; cell--) {
            x.fill(cell, numbers.charAt(cell) - '0');
        }
        return x;
    }

    // ---- "A board has 2 to 4 rows and 2 to 4 columns, at most 12 cells in all"

    /** "rows: 2 to 4", "columns: 2 to 4". */
    private static void rowsAndColumnsAreTwoToFour() {
        for (int rows = -1; rows <= 7; rows++) {
            for (int columns = -1; columns <= 7; columns++) {
                int r = rows;
                int c = columns;
                String call = "lay(" + r + ", " + c + ")";
                if (r >= 2 && r <= 4 && c >= 2 && c <= 4 && r + c < 8) {
                    FieldFiller x = begun(4, 3);
                    due(call, x.lay(r, c), r * c);
                    due(call + " lays an empty board", Boards.lookAndUndo(x),
                            Boards.lookAndUndo(Boards.of(Boards.emptyPicture(r, c))));
                } else {
                    refused(call, BAD, () -> begun(3, 2), x -> x.lay(r, c));
                }
            }
        }
    }

    /** "or there would be more than 12 cells": each side is in its range, or the cells would be few enough. */
    private static void atMostTwelveCells() {
        due("lay(3, 4)", new FieldFiller().lay(3, 4), 12);
        due("lay(4, 3)", new FieldFiller().lay(4, 3), 12);
        refused("lay(4, 4) of 16 cells", BAD, FieldFiller::new, x -> x.lay(4, 4));
        refused("lay(4, 4) behind lay(3, 4)", BAD, () -> filledWhole(3, 4), x -> x.lay(4, 4));
        refused("lay(5, 2) of 10 cells", BAD, FieldFiller::new, x -> x.lay(5, 2));
        refused("lay(2, 5) of 10 cells", BAD, FieldFiller::new, x -> x.lay(2, 5));
        refused("lay(6, 2) of 12 cells", BAD, FieldFiller::new, x -> x.lay(6, 2));
        refused("lay(2, 6) of 12 cells", BAD, FieldFiller::new, x -> x.lay(2, 6));
        refused("lay(1, 4) of 4 cells", BAD, FieldFiller::new, x -> x.lay(1, 4));
        refused("lay(4, 1) of 4 cells", BAD, FieldFiller::new, x -> x.lay(4, 1));
        refused("lay(1, 12) of 12 cells", BAD, FieldFiller::new, x -> x.lay(1, 12));
        refused("lay(12, 1) of 12 cells", BAD, FieldFiller::new, x -> x.lay(12, 1));
    }

    /** As ints, these products are 0 to 12. */
    private static void productsThatWrapAround() {
        int[][] sides = {
            {65536, 65536}, {LEAST, LEAST}, {MOST, MOST}, {LEAST, 2}, {2, LEAST}, {4, 1073741825}, {1073741825, 4},
            {3, 1431655766}, {1431655766, 3}, {2, LEAST + 2}, {LEAST + 2, 2}, {-2, -2}, {-3, -4}, {-1, -9}, {0, MOST},
        };
        for (int[] pair : sides) {
            due("the test's product of " + pair[0] + " and " + pair[1], pair[0] * pair[1] <= 12, true);
            refused("lay(" + pair[0] + ", " + pair[1] + ")", BAD, () -> begun(3, 3), x -> x.lay(pair[0], pair[1]));
        }
    }

    // ---- "cell: a cell"

    /** The cells 0 and area - 1 are cells for each call. */
    private static void endsOfCells(int rows, int columns) {
        int area = rows * columns;
        for (int cell : new int[] {0, area - 1}) {
            String where = rows + "x" + columns + " cell " + cell + ": ";
            int other = area - 1 - cell;
            FieldFiller x = Boards.of(Boards.emptyPicture(rows, columns));
            due(where + "clue", x.clue(cell, 2), 0);
            due(where + "clue taken away", x.clue(cell, 0), 2);
            due(where + "canBe", x.canBe(cell, 2), true);
            due(where + "isHidden", x.isHidden(cell), true);
            due(where + "fill", x.fill(cell, 2), 1);
            due(where + "at", x.at(cell), 2);
            due(where + "isClue", x.isClue(cell), false);
            due(where + "size", x.size(cell), 1);
            due(where + "room", x.room(cell), area);
            due(where + "shapes", x.shapes(cell), 2);
            due(where + "shapesWith itself", x.shapesWith(cell, cell), 2);
            due(where + "shapesWith the other end", x.shapesWith(cell, other), 0);
            due(where + "shapesWith of the other end", x.shapesWith(other, cell), 0);
            due(where + "undo", x.undo(), cell);
        }
    }

    /** "if there is no such cell": also what a shift by the cell would take for another one. */
    private static void noSuchCell(String name, Start start) {
        int area = start.board().area();
        int[] cells = {
            -1, area, area + 1, -area, 12, 16, 31, 32, 32 + area - 1, 64, 256, 65536, -32, -31, LEAST, LEAST + 1, MOST,
        };
        for (int cell : cells) {
            String where = name + " board of " + area + " cells, cell " + cell + ": ";
            for (int number : new int[] {0, 1, 9}) {
                refused(where + "clue of " + number, NO_CELL, start, x -> x.clue(cell, number));
            }
            refused(where + "fill", NO_CELL, start, x -> x.fill(cell, 1));
            refused(where + "at", NO_CELL, start, x -> x.at(cell));
            refused(where + "isClue", NO_CELL, start, x -> x.isClue(cell));
            refused(where + "size", NO_CELL, start, x -> x.size(cell));
            refused(where + "room", NO_CELL, start, x -> x.room(cell));
            refused(where + "canBe", NO_CELL, start, x -> x.canBe(cell, 1));
            refused(where + "isHidden", NO_CELL, start, x -> x.isHidden(cell));
            refused(where + "shapes", NO_CELL, start, x -> x.shapes(cell));
            refused(where + "shapesWith of it", NO_CELL, start, x -> x.shapesWith(cell, 0));
            refused(where + "shapesWith it", NO_CELL, start, x -> x.shapesWith(0, cell));
            refused(where + "shapesWith it, of the last cell", NO_CELL, start, x -> x.shapesWith(area - 1, cell));
            refused(where + "shapesWith it, of it", NO_CELL, start, x -> x.shapesWith(cell, cell));
        }
    }

    /** Cells that there were before lay are no cells of a smaller board. */
    private static void noSuchCellAfterASmallerBoard() {
        Start smaller = () -> {
            FieldFiller x = filledWhole(3, 4);
            x.lay(2, 2);
            return x;
        };
        for (int cell = 4; cell < 12; cell++) {
            int none = cell;
            refused("at(" + none + ") of 4 cells that were 12", NO_CELL, smaller, x -> x.at(none));
            refused("fill(" + none + ", 1) of 4 cells that were 12", NO_CELL, smaller, x -> x.fill(none, 1));
        }
    }

    // ---- numbers, seeds, rules, most

    /** "number: 1 to 9" of fill and canBe, in an empty cell, a clue and a filled cell. */
    private static void numbersAreOneToNine() {
        for (int number = 1; number <= 9; number++) {
            FieldFiller x = new FieldFiller();
            due("canBe(4, " + number + ")", x.canBe(4, number), true);
            due("fill(4, " + number + ")", x.fill(4, number), 1);
            due("at(4) of " + number, x.at(4), number);
        }
        for (int cell : new int[] {0, 1, 4, 8}) {
            refused("fill(" + cell + ", 0)", BAD, () -> begun(3, 3), x -> x.fill(cell, 0));
            refused("canBe(" + cell + ", 0)", BAD, () -> begun(3, 3), x -> x.canBe(cell, 0));
            for (int number : NO_NUMBERS) {
                String with = "(" + cell + ", " + number + ")";
                refused("fill" + with, BAD, () -> begun(3, 3), x -> x.fill(cell, number));
                refused("canBe" + with, BAD, () -> begun(3, 3), x -> x.canBe(cell, number));
            }
        }
    }

    /** "number: 1 to 9, or 0 for no clue". */
    private static void clueNumbersAreZeroToNine() {
        for (int number = 0; number <= 9; number++) {
            FieldFiller x = new FieldFiller();
            due("clue(4, " + number + ")", x.clue(4, number), 0);
            due("at(4) of clue " + number, x.at(4), number);
            due("isClue(4) of clue " + number, x.isClue(4), number != 0);
            due("clue(4, 0) in place of " + number, x.clue(4, 0), number);
        }
        for (int cell : new int[] {0, 1, 4, 8}) {
            for (int number : NO_NUMBERS) {
                refused("clue(" + cell + ", " + number + ")", BAD, () -> begun(3, 3), x -> x.clue(cell, number));
            }
        }
    }

    /** "seed: 0 to 2147483647". */
    private static void seeds() {
        for (int[] sides : Boards.LAYOUTS) {
            for (int seed : new int[] {0, 1, MOST - 1, MOST}) {
                FieldFiller x = begun(sides[0], sides[1]);
                int clues = x.make(seed);
                due("make(" + seed + ") of " + x.area() + " cells answers its clues",
                        clues, x.area() - Boards.numbers(x).replaceAll("[^.]", "").length());
            }
            for (int seed : new int[] {-1, -2, LEAST + 1, LEAST}) {
                refused("make(" + seed + ")", BAD, () -> begun(sides[0], sides[1]), x -> x.make(seed));
            }
        }
        refused("make(-1) on a full board", BAD, () -> filledWhole(3, 4), x -> x.make(-1));
        refused("make(-1) on a new board", BAD, FieldFiller::new, x -> x.make(-1));
    }

    /** "rule: 0 to 2", on a board on which each of them finds a cell. */
    private static void rules() {
        Start start = () -> Boards.of(".22/2../2.4");
        due("run(0)", start.board().run(0), 1);
        due("run(1)", start.board().run(1), 44);
        due("run(2)", start.board().run(2), 1);
        for (int rule : new int[] {-1, 3, 4, 256, 65536, LEAST, LEAST + 1, MOST}) {
            refused("run(" + rule + ")", BAD, start, x -> x.run(rule));
            refused("run(" + rule + ") on a full board", BAD, () -> filledWhole(2, 2), x -> x.run(rule));
        }
    }

    /** "most: 1 to 5". */
    private static void mosts() {
        for (int most = 1; most <= 5; most++) {
            due("solutions(" + most + ")", new FieldFiller().solutions(most), most);
        }
        for (int most : new int[] {0, 6, -1, 7, 257, 65537, LEAST, LEAST + 1, MOST}) {
            refused("solutions(" + most + ")", BAD, () -> begun(3, 3), x -> x.solutions(most));
            refused("solutions(" + most + ") on a full board", BAD, () -> filledWhole(2, 2), x -> x.solutions(most));
            refused("solutions(" + most + ") where there is none", BAD, () -> Boards.of("1./.1"), x -> x.solutions(most));
        }
    }

    // ---- what is refused as the board is

    /** "if the board of clues would not be sound", by a new clue and in place of one. */
    private static void clueOfABoardThatIsNotSound() {
        refused("clue: a field too large", STATE, () -> Boards.of("22./...", 2, 3), x -> x.clue(2, 2));
        refused("clue: a field too large that is not the first", STATE, () -> Boards.of("2.../..22"), x -> x.clue(5, 2));
        refused("clue: fields joined too large", STATE, () -> Boards.of("3.3/3.."), x -> x.clue(1, 3));
        refused("clue: no room", STATE, () -> Boards.of("../..", 0, 4), x -> x.clue(0, 5));
        refused("clue: no room for another field", STATE, () -> Boards.of("2./1."), x -> x.clue(1, 1));
        refused("clue: no room for another field that is not the first", STATE, () -> Boards.of("2.../..../..12"),
                x -> x.clue(7, 1));
        refused("clue: no room for a 9", STATE, () -> Boards.of("9../.../..."), x -> x.clue(8, 1));
        refused("clue in place of one: too large", STATE, () -> Boards.of("223/...", 5, 3), x -> x.clue(2, 2));
        refused("clue in place of one: no room", STATE, () -> Boards.of("3./.3", 1, 3), x -> x.clue(0, 9));
        refused("clue in place of a filled cell", STATE, () -> Boards.of("22/..", 2, 1), x -> x.clue(2, 2));
    }

    /** "if the cell is not empty": for each number, also that which is there. */
    private static void fillOfACellThatIsNotEmpty() {
        for (int number = 1; number <= 9; number++) {
            int put = number;
            refused("fill of a clue with " + put, STATE, () -> begun(3, 4), x -> x.fill(0, put));
            refused("fill of a filled cell with " + put, STATE, () -> begun(3, 4), x -> x.fill(1, put));
            refused("fill of the last cell with " + put, STATE, () -> begun(3, 4), x -> x.fill(11, put));
        }
    }

    /** "or the number cannot be put there". */
    private static void fillOfANumberThatCannotBePut() {
        refused("fill: a field too large", STATE, () -> Boards.of("22./...", 5, 3), x -> x.fill(2, 2));
        refused("fill: a filled field too large", STATE, () -> Boards.of(".../...", 0, 2, 1, 2), x -> x.fill(4, 2));
        refused("fill: fields joined too large", STATE, () -> Boards.of("3.3/...", 3, 3), x -> x.fill(1, 3));
        refused("fill: no room", STATE, () -> Boards.of("../..", 0, 4), x -> x.fill(3, 5));
        refused("fill: no room for a clue's field", STATE, () -> Boards.of("2./..", 2, 1), x -> x.fill(1, 1));
        refused("fill: no room for a filled field", STATE, () -> Boards.of("../1.", 0, 2), x -> x.fill(1, 1));
        refused("fill: no room for a 9", STATE, () -> Boards.of(".../.../...", 0, 9), x -> x.fill(8, 8));
    }

    /** "if none was filled in". */
    private static void undoWhereNoneWasFilledIn() {
        refused("undo on a new board", STATE, FieldFiller::new, FieldFiller::undo);
        refused("undo on a board of clues", STATE, () -> Boards.of("333/1../..."), FieldFiller::undo);
        refused("undo on a full board of clues", STATE, () -> Boards.of("44/44"), FieldFiller::undo);
    }

    // ---- "if several exceptions apply, the one that its @throws lines name first is thrown"

    private static void cellBeforeNumberBeforeState() {
        Start start = () -> begun(2, 2);
        for (int number : new int[] {-1, 10, LEAST, MOST}) {
            for (int cell : new int[] {-1, 4, LEAST, MOST}) {
                String with = "(" + cell + ", " + number + ")";
                refused("cell before number: clue" + with, NO_CELL, start, x -> x.clue(cell, number));
                refused("cell before number: fill" + with, NO_CELL, start, x -> x.fill(cell, number));
                refused("cell before number: canBe" + with, NO_CELL, start, x -> x.canBe(cell, number));
            }
            // The cells 0, 1 and 3 are not empty, so that fill would be refused there with any number.
            for (int cell = 0; cell < 4; cell++) {
                int there = cell;
                String with = "(" + cell + ", " + number + ")";
                refused("number before state: clue" + with, BAD, start, x -> x.clue(there, number));
                refused("number before state: fill" + with, BAD, start, x -> x.fill(there, number));
            }
        }
        for (int number = 1; number <= 9; number++) {
            int put = number;
            refused("cell before state: fill(4, " + put + ")", NO_CELL, () -> Boards.of("44/44"), x -> x.fill(4, put));
            refused("cell before state: clue(4, " + put + ")", NO_CELL, () -> Boards.of("44/44"), x -> x.clue(4, put));
        }
        refused("cell before number: fill(4, 0)", NO_CELL, start, x -> x.fill(4, 0));
        refused("cell before number: canBe(-1, 0)", NO_CELL, start, x -> x.canBe(-1, 0));
        refused("number before state: fill(0, 0)", BAD, start, x -> x.fill(0, 0));
    }
}
