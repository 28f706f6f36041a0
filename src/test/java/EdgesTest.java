/**
 * The sentences of the document that name a boundary case, one by one: an empty board and a full
 * one, an empty log, a field as large as its number, just enough room, most, NONE. The ranges of the
 * arguments and the refused calls are those of RangesTest.
 */
final class EdgesTest {
    private static final Check CHECK = new Check();
    private static final Class<IllegalStateException> STATE = IllegalStateException.class;

    public static void main(String[] args) {
        rowsDoNotGoOnInTheNext();
        aRoomCountsItsOwnCell();
        aFieldIsAsLargeAsItsNumber();
        fieldsAreJoinedToJustTheirNumber();
        aFieldHasJustEnoughRoom();
        otherFieldsKeepJustEnoughRoom();
        aRowHasAsManyCellsAsTheFieldLacks();
        shapesAreOfNCells();
        shapesHaveNoCellOfTheirNumberBeside();
        aNewObject();
        for (int[] sides : Boards.LAYOUTS) {
            anEmptyBoard(sides[0], sides[1]);
            aFullBoard(sides[0], sides[1]);
            layEmpties(sides[0], sides[1]);
            noRuleFindsACell(sides[0], sides[1]);
            makeKeepsTheSize(sides[0], sides[1]);
        }
        aClueEmptiesAllThatWasFilledIn();
        aClueAnswersWhatWasThere();
        aClueLooksAtCluesAlone();
        aClueInPlaceOfAnother();
        makeTakesBothEndsOfSeeds();
        anEmptyLog();
        undoIsOfTheLast();
        filledCounts();
        ruleZeroTakesJustOneNumber();
        ruleOneTakesWhatAllShapesHave();
        ruleOneTakesTheLowestField();
        ruleTwoTakesHiddenCells();
        aRuleTakesTheLowestCell();
        solvedBoards();
        mostIfThereAreMore();
        CHECK.end();
    }

    private static void due(String what, Object got, Object due) {
        CHECK.same(what, got, due);
    }

    /** An h for each hidden cell, a point for each that a field reaches, its number for each other one. */
    private static String hidden(FieldFiller x) {
        StringBuilder text = new StringBuilder();
        for (int cell = 0; cell < x.area(); cell++) {
            text.append(x.isHidden(cell) ? "h" : x.at(cell) == 0 ? "." : x.at(cell));
        }
        return text.toString();
    }

    /** In how many shapes of the field of a cell each cell is. */
    private static String shapesWith(FieldFiller x, int cell) {
        StringBuilder text = new StringBuilder();
        for (int other = 0; other < x.area(); other++) {
            text.append(x.shapesWith(cell, other));
        }
        return text.toString();
    }

    // ---- Terms

    /** "Cells are neighbours if they share a side": neither over the end of a row or column, nor by a corner. */
    private static void rowsDoNotGoOnInTheNext() {
        for (int[] sides : Boards.LAYOUTS) {
            int columns = sides[1];
            String empty = Boards.emptyPicture(sides[0], columns);
            for (int next = columns; next < sides[0] * columns; next += columns) {
                String name = empty + " cells " + (next - 1) + " and " + next;
                FieldFiller x = Boards.of(empty, next - 1, 2, next, 2);
                due(name + ": no field", x.size(next - 1) + x.size(next), 2);
                due(name + ": not reached", Boards.of(empty, next - 1, 2).isHidden(next), true);
                due(name + ": not reached back", Boards.of(empty, next, 2).isHidden(next - 1), true);
            }
        }
        due("the ends of a row", Boards.of("2..2/....").size(0), 1);
        due("the ends of a column", Boards.of("2./../../2.").size(0), 1);
        due("corners", Boards.of("2.2/.2./2.2").size(4), 1);
        due("corners do not lead into a room", Boards.of("4../..2/.2.").room(0), 6);
        due("the whole way round", Boards.of("888/8.8/888").size(0), 8);
    }

    /** "Its room is how many cells can be reached .., itself counted." */
    private static void aRoomCountsItsOwnCell() {
        FieldFiller x = Boards.of("888/888/88.", 8, 1);
        due("room of a cell that is shut in", x.room(8), 1);
        due("room of the field that shuts it in", x.room(0), 8);
        due("room of a corner", Boards.of("3./..").room(0), 4);
    }

    /** "A board is sound if no field has a size above its number": as large as it is sound. */
    private static void aFieldIsAsLargeAsItsNumber() {
        for (int number = 1; number <= 9; number++) {
            String name = "field of " + number + ": ";
            FieldFiller x = new FieldFiller();
            x.lay(3, 4);
            for (int cell = 0; cell < number; cell++) {
                due(name + "can be in " + cell, x.canBe(cell, number), true);
                due(name + "fill " + cell, x.fill(cell, number), cell + 1);
            }
            int put = number;
            due(name + "size", x.size(0), number);
            due(name + "room", x.room(number - 1), 12);
            due(name + "shapes", x.shapes(0), 1);
            due(name + "shapes with its last cell", x.shapesWith(0, number - 1), 1);
            due(name + "shapes with one cell more", x.shapesWith(0, number), 0);
            due(name + "reaches no cell", hidden(x).replace("h", "").length(), number);
            due(name + "rule 1 takes no cell more", x.run(1), FieldFiller.NONE);
            due(name + "one cell more", x.canBe(number, number), false);
            CHECK.refuses(name + "fill one cell more", STATE, () -> x.fill(put, put));
            due(name + "undo", x.undo(), number - 1);
            due(name + "can be there again", x.canBe(number - 1, number), true);
            cluesAsLargeAsTheirNumber(number);
        }
    }

    private static void cluesAsLargeAsTheirNumber(int number) {
        FieldFiller x = new FieldFiller();
        x.lay(4, 3);
        for (int cell = 0; cell < number; cell++) {
            due("clue " + cell + " of " + number, x.clue(cell, number), 0);
        }
        CHECK.refuses("one clue more than " + number, STATE, () -> x.clue(number, number));
        due("clues of " + number, x.size(0), number);
    }

    /** "fields grow together as they are": to their number, but not beyond. */
    private static void fieldsAreJoinedToJustTheirNumber() {
        due("two fields joined", Boards.of("3.3/...").fill(1, 3), 3);
        due("two fields would be one too large", Boards.of("3.3/3..").canBe(1, 3), false);
        due("four fields joined", Boards.of(".5./5.5/.5.").fill(4, 5), 5);
        due("four fields would be one too large", Boards.of(".4./4.4/.4.").canBe(4, 4), false);
        FieldFiller x = Boards.of(".5./5.5/.5.", 4, 5);
        due("joined seen from a clue", x.size(1), 5);
        x.undo();
        due("parted by undo", x.size(1), 1);
    }

    /** "or a room below its number": a room that is as large as it is sound. */
    private static void aFieldHasJustEnoughRoom() {
        String[] pictures = {
            "888/888/88.", "777/77./77.", "66./66./66.", "55./55./5..", "44./44./...", "3../3../3..", "22./.../...",
            "1../.../...", ".../.../...",
        };
        for (int number = 1; number <= 9; number++) {
            String picture = pictures[number - 1];
            int cell = picture.replace("/", "").indexOf('.');
            for (int other = number + 1; other <= 9; other++) {
                int tooLarge = other;
                due(picture + " has no room for " + other, Boards.of(picture).canBe(cell, other), false);
                CHECK.refuses(picture + " fill " + other, STATE, () -> Boards.of(picture).fill(cell, tooLarge));
                CHECK.refuses(picture + " clue " + other, STATE, () -> Boards.of(picture).clue(cell, tooLarge));
            }
            FieldFiller x = Boards.of(picture);
            due(picture + " has room for " + number, x.canBe(cell, number), true);
            due(picture + " fill " + number, x.fill(cell, number), 1);
            due(picture + " room", x.room(cell), number);
            due(picture + " shapes", x.shapes(cell), 1);
            due(picture + " clue " + number, Boards.of(picture).clue(cell, number), 0);
            roomIsNeededWhole(x, picture, number);
        }
    }

    /** Of a room with just enough cells none can be of another number; rules 0 and 1 fill it by rising cells. */
    private static void roomIsNeededWhole(FieldFiller x, String picture, int number) {
        int clues = 9 - number;
        for (int cell = 0; cell < 9; cell++) {
            for (int other = 1; other <= 9 && x.at(cell) == 0; other++) {
                due(picture + " needs " + cell + ", not for " + other, x.canBe(cell, other), other == number);
            }
        }
        int rule = 0;
        for (int cell = 0; cell < 9; cell++) {
            if (x.at(cell) == 0) {
                due(picture + " run(" + rule + ")", x.run(rule), 10 * cell + number);
                rule = 1 - rule;
            }
        }
        due(picture + " filled", x.filled(), 9 - clues);
        due(picture + " solved", x.isSolved(), true);
        due(picture + " run(0) on the full board", x.run(0), -1);
        due(picture + " run(1) on the full board", x.run(1), -1);
    }

    /** A number that has room itself takes it from another field: each other field counts, from 2 to 9. */
    private static void otherFieldsKeepJustEnoughRoom() {
        due("2 shut in", Boards.of("2./1.").canBe(1, 1), false);
        due("2 takes its last cell", Boards.of("2./1.").canBe(1, 2), true);
        due("2 shut in, of two fields the last", Boards.of("2.../..../..12").canBe(7, 1), false);
        due("2 keeps a cell", Boards.of("2.../..../...2").canBe(7, 1), true);
        due("3 keeps three", Boards.of("31./.2./...").canBe(7, 2), true);
        due("3 would keep two", Boards.of("31./.2./.2.").canBe(6, 1), false);
        due("3 takes one of the three", Boards.of("31./.2./.2.").canBe(6, 3), true);
        due("8 loses one of nine", Boards.of("8../.../...").canBe(8, 1), true);
        due("8 loses two of nine", Boards.of("8../.../1..").canBe(8, 1), false);
        due("9 loses one of nine", Boards.of("9../.../...").canBe(8, 1), false);
        due("9 loses three of twelve", Boards.of("9../.../.../33.").canBe(11, 3), true);
        due("9 loses four of twelve", Boards.of("9.1/.../.../33.").canBe(11, 3), false);
        due("a cut leaves just enough", Boards.of("3.../....", 1, 1).canBe(6, 2), true);
        due("a cut leaves one too few", Boards.of("3.../....", 1, 1).canBe(5, 2), false);
    }

    /** "which has at most as many cells as the field lacks": as many reach, one more does not. */
    private static void aRowHasAsManyCellsAsTheFieldLacks() {
        due("lacks 0", hidden(Boards.of("1../.../...")), "1hhhhhhhh");
        due("lacks 0, of two cells", hidden(Boards.of("22./.../...")), "22hhhhhhh");
        due("lacks 1", hidden(Boards.of(".../.2./...")), "h.h.2.h.h");
        due("lacks 1, from each of its cells", hidden(Boards.of(".../33./...")), "..h33...h");
        due("lacks 2", hidden(Boards.of("3.../..../....")), "3..h..hh.hhh");
        due("lacks 3", hidden(Boards.of("4.../..../....")), "4......h..hh");
        due("lacks 4", hidden(Boards.of("5.../..../....")), "5..........h");
        due("lacks 5", hidden(Boards.of("6.../..../....")), "6...........");
        due("lacks 8", hidden(Boards.of("9.../..../....")), "9...........");
        due("lacks 3, round a corner", hidden(Boards.of("41../..../....")), "41hh...h..hh");
        due("lacks 8, but does not come there", hidden(Boards.of("9.1./...1/....")), "9.1h...1....");
        due("a full board", hidden(Boards.of("44/44")), "4444");
        due("two fields reach", hidden(Boards.of("2.../..../...2")), "2.hh.hh.hh.2");
        due("a filled field reaches", hidden(Boards.of(".../.../...", 4, 2)), "h.h.2.h.h");
    }

    /** "the sets of n cells which contain the field", over "empty or .. the number n" alone. */
    private static void shapesAreOfNCells() {
        due("of 1", shapesWith(Boards.of("1../.../..."), 0), "100000000");
        due("of 2", shapesWith(Boards.of("2../.../..."), 0), "210100000");
        due("of 3", shapesWith(Boards.of("3../.../..."), 0), "531320100");
        due("of 3 beside a 1", shapesWith(Boards.of("31./.../..."), 0), "200210100");
        due("of 8 in 9 cells", shapesWith(Boards.of("8../.../..."), 0), "877777777");
        due("of 8 in 9 cells: all", Boards.of("8../.../...").shapes(0), 8);
        due("of 9 in 9 cells", shapesWith(Boards.of("9../.../..."), 0), "111111111");
        due("of 9 in 9 cells: all", Boards.of("9../.../...").shapes(0), 1);
        due("of a full field", shapesWith(Boards.of("333/.../..."), 1), "111000000");
        due("of a field that lacks one", shapesWith(Boards.of("33./.../..."), 1), "331110000");
        due("of an empty cell", shapesWith(Boards.of("33./.../..."), 2), "000000000");
        due("of an empty cell: all", Boards.of("33./.../...").shapes(2), 0);
        due("of an empty cell with itself", Boards.of("../..").shapesWith(3, 3), 0);
    }

    /** "beside which no cell with the number n lies": a field in its way is taken in whole, or not come beside. */
    private static void shapesHaveNoCellOfTheirNumberBeside() {
        due("not beside its number", shapesWith(Boards.of("2.2/..."), 0), "100100");
        due("not beside its number, seen from there", shapesWith(Boards.of("2.2/..."), 2), "001001");
        due("with a field in it", shapesWith(Boards.of("3.3/..."), 0), "211110");
        due("no shape", Boards.of("2.../.2..").shapes(0), 0);
        due("no shape with any cell", shapesWith(Boards.of("2.../.2.."), 0), "00000000");
        due("no shape: rule 1 fills for the other field alone", Boards.of("2.../.2..").run(1), 62);
        due("beside another number", shapesWith(Boards.of("2.3/..."), 0), "210100");
        due("not beside a filled cell", shapesWith(Boards.of("2../...", 2, 2), 0), "100100");
    }

    // ---- Promises 1 and 2: a new object, lay

    /** "A board of 3 rows and 3 columns, empty." */
    private static void aNewObject() {
        due("a new object", Boards.lookAndUndo(new FieldFiller()), Boards.lookAndUndo(Boards.of(".../.../...")));
        due("a new object's area", new FieldFiller().area(), 9);
        FieldFiller withClue = new FieldFiller();
        withClue.clue(0, 9);
        due("a new object with a clue", Boards.lookAndUndo(withClue), Boards.lookAndUndo(Boards.of("9../.../...")));
        FieldFiller made = new FieldFiller();
        FieldFiller laidAndMade = Boards.of(".../.../...");
        due("a new object's make", made.make(20), laidAndMade.make(20));
        due("a new object that has made", Boards.lookAndUndo(made), Boards.lookAndUndo(laidAndMade));
        FieldFiller one = Boards.of("44/44");
        FieldFiller other = new FieldFiller();
        one.make(5);
        due("another object's numbers", Boards.numbers(other), ".........");
    }

    /** All that the calls tell of an empty board. */
    private static void anEmptyBoard(int rows, int columns) {
        String name = rows + "x" + columns + " empty: ";
        FieldFiller x = Boards.of(Boards.emptyPicture(rows, columns));
        int area = rows * columns;
        due(name + "area", x.area(), area);
        due(name + "filled", x.filled(), 0);
        due(name + "isSolved", x.isSolved(), false);
        for (int cell = 0; cell < area; cell++) {
            due(name + "at", x.at(cell), 0);
            due(name + "isClue", x.isClue(cell), false);
            due(name + "size", x.size(cell), 0);
            due(name + "room", x.room(cell), 0);
            due(name + "shapes", x.shapes(cell), 0);
            due(name + "shapesWith itself", x.shapesWith(cell, cell), 0);
            due(name + "isHidden", x.isHidden(cell), true);
            for (int number = 1; number <= 9; number++) {
                due(name + "canBe " + number, x.canBe(cell, number), number <= area);
            }
        }
        CHECK.refuses(name + "undo", STATE, x::undo);
        for (int most = 1; most <= 5; most++) {
            due(name + "solutions(" + most + ")", x.solutions(most), most);
        }
    }

    /** All that the calls tell of a full board: of clues, of filled cells, of both. */
    private static void aFullBoard(int rows, int columns) {
        String picture = Boards.solvedPicture(rows, columns);
        String numbers = picture.replace("/", "");
        for (int clues = 0; clues <= numbers.length(); clues++) {
            FieldFiller x = new FieldFiller();
            x.lay(rows, columns);
            for (int cell = 0; cell < numbers.length(); cell++) {
                int number = numbers.charAt(cell) - '0';
                due(picture + " solved too early", x.isSolved(), false);
                if (cell < clues) {
                    x.clue(cell, number);
                } else {
                    x.fill(cell, number);
                }
            }
            aFullBoard(x, picture + " with " + clues + " clues: ", numbers);
            due(picture + " filled", x.filled(), numbers.length() - clues);
            for (int cell = numbers.length() - 1; cell >= clues; cell--) {
                due(picture + " undo", x.undo(), cell);
            }
            CHECK.refuses(picture + " undo of a clue", STATE, x::undo);
        }
    }

    private static void aFullBoard(FieldFiller x, String name, String numbers) {
        due(name + "isSolved", x.isSolved(), true);
        due(name + "solutions(1)", x.solutions(1), 1);
        due(name + "solutions(5)", x.solutions(5), 1);
        for (int rule = 0; rule <= 2; rule++) {
            due(name + "run(" + rule + ")", x.run(rule), FieldFiller.NONE);
        }
        for (int i = 0; i < numbers.length(); i++) {
            int cell = i;
            int number = numbers.charAt(cell) - '0';
            due(name + "size", x.size(cell), number);
            due(name + "room", x.room(cell), number);
            due(name + "shapes", x.shapes(cell), 1);
            due(name + "shapesWith", x.shapesWith(0, cell), number == x.at(0) ? 1 : 0);
            due(name + "isHidden", x.isHidden(cell), false);
            due(name + "canBe", x.canBe(cell, number), false);
            due(name + "canBe 1", x.canBe(cell, 1), false);
            CHECK.refuses(name + "fill", STATE, () -> x.fill(cell, number));
        }
    }

    /** "Lays an empty board": also of the same size, over clues, filled cells and their log. */
    private static void layEmpties(int rows, int columns) {
        String empty = Boards.lookAndUndo(Boards.of(Boards.emptyPicture(rows, columns)));
        for (int[] sides : Boards.LAYOUTS) {
            FieldFiller x = Boards.of(Boards.emptyPicture(sides[0], sides[1]), 0, 2, 1, 2);
            due("lay over filled cells", x.lay(rows, columns), rows * columns);
            due("lay over filled cells empties", Boards.lookAndUndo(x), empty);
            FieldFiller y = Boards.of(Boards.solvedPicture(sides[0], sides[1]));
            due("lay over clues", y.lay(rows, columns), rows * columns);
            due("lay over clues empties", Boards.lookAndUndo(y), empty);
        }
    }

    // ---- Promise 3: clue

    /** "All cells that were filled in become empty by this, and the log is empty then": whatever the clue is. */
    private static void aClueEmptiesAllThatWasFilledIn() {
        int[][] clues = {{8, 1}, {8, 0}, {0, 3}, {0, 0}, {1, 2}, {1, 0}, {1, 3}, {4, 5}, {5, 0}};
        for (int[] pair : clues) {
            String call = "clue(" + pair[0] + ", " + pair[1] + ")";
            FieldFiller x = Boards.of("3../.../...", 1, 3, 5, 2, 4, 2);
            x.clue(pair[0], pair[1]);
            due(call + " filled", x.filled(), 0);
            CHECK.refuses(call + " log", STATE, x::undo);
            StringBuilder left = new StringBuilder("3........");
            left.setCharAt(pair[0], pair[1] == 0 ? '.' : (char) ('0' + pair[1]));
            due(call + " numbers", Boards.numbers(x), left.toString());
        }
    }

    /** "Returns the clue that was there; 0 for none": 0 also where a number was filled in. */
    private static void aClueAnswersWhatWasThere() {
        FieldFiller x = Boards.of("3../.../...", 1, 3);
        due("clue in a filled cell", x.clue(1, 3), 0);
        due("clue of the same number", x.clue(1, 3), 3);
        due("clue taken away", x.clue(1, 0), 3);
        due("clue taken away where none is", x.clue(1, 0), 0);
        x.fill(1, 3);
        due("clue taken away where a cell was filled", x.clue(1, 0), 0);
        due("the filled cell is empty then", Boards.numbers(x), "3........");
        due("clue of 9", x.clue(0, 9), 3);
        due("clue of 1 behind 9", x.clue(0, 1), 9);
        due("no clue behind 1", x.clue(0, 0), 1);
    }

    /** "if the board of clues would not be sound": what was filled in does not count. */
    private static void aClueLooksAtCluesAlone() {
        FieldFiller large = Boards.of("22./...", 5, 3);
        due("clue that would be too large with filled cells", Boards.of("2../...", 1, 2).clue(2, 2), 0);
        due("clue that would shut in a filled cell", Boards.of("../1.", 0, 2).clue(1, 1), 0);
        due("clue that has no room beside filled cells", Boards.of("../..", 1, 1, 2, 1).clue(0, 4), 0);
        CHECK.refuses("clue that is too large of clues", STATE, () -> large.clue(2, 2));
        due("filled cells stay where a clue is refused", Boards.numbers(large), "22...3");
        due("the log stays where a clue is refused", large.undo(), 5);
        FieldFiller full = Boards.of("../..", 0, 4, 1, 4, 2, 4, 3, 4);
        due("clue on a full board of filled cells", full.clue(0, 1), 0);
        due("clue on a full board leaves it alone", Boards.numbers(full), "1...");
    }

    /** A clue in place of another: the other one does not count any more. */
    private static void aClueInPlaceOfAnother() {
        FieldFiller x = Boards.of("333/...");
        due("clue that parts a field", x.clue(1, 1), 3);
        due("the parts", x.size(0) + x.size(2), 2);
        due("clue that joins them", x.clue(1, 3), 1);
        due("joined", x.size(0), 3);
        FieldFiller y = Boards.of("33/31");
        due("clue of the same number on a full board", y.clue(3, 1), 1);
        CHECK.refuses("clue that makes a full field too large", STATE, () -> y.clue(3, 3));
        CHECK.refuses("clue that takes a cell of a full field", STATE, () -> y.clue(0, 1));
        due("refused, they leave the clues", Boards.numbers(y), "3331");
    }

    // ---- Promise 4: make

    /** "Makes a board of the size that there is", and what was there does not count. */
    private static void makeKeepsTheSize(int rows, int columns) {
        for (int seed : new int[] {0, 9, Integer.MAX_VALUE}) {
            FieldFiller x = Boards.of(Boards.emptyPicture(rows, columns));
            FieldFiller y = Boards.of(Boards.solvedPicture(rows, columns));
            FieldFiller z = Boards.of(Boards.emptyPicture(rows, columns), 0, 3, 1, 3);
            String name = rows + "x" + columns + " make(" + seed + ")";
            int clues = x.make(seed);
            due(name + " over clues", y.make(seed), clues);
            due(name + " over filled cells", z.make(seed), clues);
            due(name + " area", x.area(), rows * columns);
            due(name + " filled", z.filled(), 0);
            due(name + " one solution", x.solutions(2), 1);
            String made = Boards.lookAndUndo(x);
            due(name + " over clues tells the same", Boards.lookAndUndo(y), made);
            due(name + " over filled cells tells the same", Boards.lookAndUndo(z), made);
        }
    }

    /** "seed: 0 to 2147483647", "beginning with d modulo 9 and 1, added, and going on with 1 behind 9". */
    private static void makeTakesBothEndsOfSeeds() {
        for (int[] sides : new int[][] {{2, 2}, {2, 3}, {3, 2}}) {
            for (int i = 0; i < 150; i++) {
                makesAsPlainly(sides[0], sides[1], i);
                makesAsPlainly(sides[0], sides[1], Integer.MAX_VALUE - i);
                makesAsPlainly(sides[0], sides[1], 65536 * (i + 1) - 1);
            }
        }
    }

    private static void makesAsPlainly(int rows, int columns, int seed) {
        FieldFiller x = Boards.of(Boards.emptyPicture(rows, columns));
        PlainFiller plain = new PlainFiller();
        plain.lay(rows, columns);
        String name = rows + "x" + columns + " make(" + seed + ")";
        due(name, x.make(seed), plain.make(seed));
        StringBuilder numbers = new StringBuilder();
        for (int cell = 0; cell < plain.area(); cell++) {
            numbers.append(plain.at(cell) == 0 ? "." : plain.at(cell));
        }
        due(name + " numbers", Boards.numbers(x), numbers.toString());
    }

    // ---- Promises 6 and 8: undo, filled

    /** "if none was filled in": whatever emptied the log. */
    private static void anEmptyLog() {
        FieldFiller x = new FieldFiller();
        CHECK.refuses("undo on a new object", STATE, x::undo);
        x.fill(0, 2);
        x.lay(3, 3);
        CHECK.refuses("undo behind lay", STATE, x::undo);
        x.fill(0, 2);
        x.clue(8, 1);
        CHECK.refuses("undo behind clue", STATE, x::undo);
        x.fill(0, 2);
        x.make(0);
        CHECK.refuses("undo behind make", STATE, x::undo);
        x.clue(0, 0);
        CHECK.refuses("undo behind a clue that is taken away", STATE, x::undo);
        x.lay(2, 2);
        CHECK.refuses("fill that is refused", STATE, () -> x.fill(0, 5));
        CHECK.refuses("undo behind a fill that was refused", STATE, x::undo);
        due("run that finds none", x.run(0), FieldFiller.NONE);
        CHECK.refuses("undo behind a run that found none", STATE, x::undo);
        x.fill(3, 4);
        due("undo", x.undo(), 3);
        CHECK.refuses("undo behind undo", STATE, x::undo);
        CHECK.refuses("undo behind an undo that was refused", STATE, x::undo);
    }

    /** "Empties the cell that was filled in last": by fill or by a rule, not by rising cells. */
    private static void undoIsOfTheLast() {
        FieldFiller x = Boards.of("4../.../...");
        x.fill(8, 1);
        x.fill(5, 2);
        x.fill(4, 3);
        due("run", x.run(1), 22);
        due("undo all", Boards.undoAll(x), " 2 4 5 8");
        due("numbers behind that", Boards.numbers(x), "4........");
        x.fill(1, 4);
        x.fill(2, 4);
        x.undo();
        x.fill(3, 4);
        due("undo behind undo and fill", Boards.undoAll(x), " 3 1");
        FieldFiller twelve = Boards.of("..../..../....", 11, 9, 10, 9, 9, 9, 8, 9, 7, 9, 6, 9, 5, 9, 4, 9, 0, 9);
        twelve.fill(2, 3);
        twelve.fill(3, 3);
        due("the last of twelve", twelve.fill(1, 3), 3);
        due("twelve filled", twelve.filled(), 12);
        due("undo twelve", Boards.undoAll(twelve), " 1 3 2 0 4 5 6 7 8 9 10 11");
        due("none filled", twelve.filled(), 0);
    }

    /** "Returns how many cells were filled in": clues, refused calls and rules that find none do not count. */
    private static void filledCounts() {
        FieldFiller x = Boards.of("3../.../..1");
        due("filled with clues alone", x.filled(), 0);
        x.fill(1, 3);
        due("filled one", x.filled(), 1);
        CHECK.refuses("fill it again", STATE, () -> x.fill(1, 3));
        due("filled behind a refused call", x.filled(), 1);
        due("run(2)", x.run(2), FieldFiller.NONE);
        due("filled behind a rule that finds none", x.filled(), 1);
        FieldFiller rule = Boards.of("4./..");
        rule.run(1);
        due("filled by a rule", rule.filled(), 1);
        rule.undo();
        due("filled behind undo", rule.filled(), 0);
    }

    // ---- Promise 7: run

    /** "NONE if it finds none": on an empty board, and nothing is filled then. */
    private static void noRuleFindsACell(int rows, int columns) {
        String empty = Boards.emptyPicture(rows, columns);
        for (int rule = 0; rule <= 2; rule++) {
            FieldFiller x = Boards.of(empty);
            due(empty + " run(" + rule + ")", x.run(rule), -1);
            due(empty + " run(" + rule + ") changes nothing", Boards.lookAndUndo(x), Boards.lookAndUndo(Boards.of(empty)));
        }
        due("NONE", FieldFiller.NONE, -1);
    }

    /** "The rule 0 finds an empty cell into which just one number can be put": not none, not two; 1 to 9. */
    private static void ruleZeroTakesJustOneNumber() {
        due("1 in the first cell", Boards.of(".88/888/888").run(0), 1);
        due("9 in the first cell", Boards.of(".99/999/999").run(0), 9);
        due("1 in the last cell", Boards.of("888/888/88.").run(0), 81);
        due("9 in the last cell", Boards.of("999/999/99.").run(0), 89);
        due("the last cell of twelve", Boards.of("9993/9993/999.").run(0), 113);
        due("no number", Boards.of("1./.1").run(0), -1);
        due("two numbers, 1 and 2", Boards.of("44/44/..").run(0), -1);
        due("beside the 2 just 2", Boards.of("44/44/..", 4, 2).run(0), 52);
        due("beside the 1 no number", Boards.of("44/44/..", 4, 1).run(0), -1);
        due("no number in the first cell, one in a later", Boards.of(".1./2../2.5").run(0), 25);
    }

    /** "which has a shape, and all of whose shapes have the cell", "into which the number .. can be put". */
    private static void ruleOneTakesWhatAllShapesHave() {
        due("the first cell", Boards.of(".9./.../...").run(1), 9);
        due("the last cell", Boards.of("999/999/99.").run(1), 89);
        due("the last cell of twelve", Boards.of("9993/9993/999.").run(1), 113);
        due("two shapes without a cell of both", Boards.of("2./..").run(1), -1);
        due("two shapes with a cell of both", Boards.of("31/../..").run(1), 23);
        due("a full field", Boards.of("1./.1").run(1), -1);
        due("all shapes have a cell that it cannot be put into", Boards.of("2.4/1..").canBe(1, 2), false);
        due("nor the other number", Boards.of("2.4/1..").canBe(1, 4), false);
        due("so that another cell is filled", Boards.of("2.4/1..").run(1), 44);
        due("a field that was filled in", Boards.of("../..", 3, 4).run(1), 4);
    }

    /** "of several such fields that with the lowest cell counts": whichever number is the lower one. */
    private static void ruleOneTakesTheLowestField() {
        due("of 4 at 1 and 3 at 4", Boards.of(".434/3...").run(1), 4);
        due("of 2 at 1 and 3 at 3", Boards.of(".2./312/..3").run(1), 2);
        due("of 4 at 2 and 2 at 3", Boards.of("..4/2.2/4..").run(1), 4);
    }

    /** "a cell that is hidden and has no empty neighbour, and into which 1 can be put". */
    private static void ruleTwoTakesHiddenCells() {
        due("the first cell", Boards.of(".22/2../2..").run(2), 1);
        due("the last cell of twelve", Boards.of("...2/...2/.22.").run(2), 111);
        due("a cell in the middle", Boards.of("888/8.8/888").run(2), 41);
        due("a cell that a field reaches", Boards.of(".33/2../2..").run(2), -1);
        due("1 can be put there", Boards.of(".33/2../2..").canBe(0, 1), true);
        due("a cell beside an empty one", Boards.of("22/..").run(2), -1);
        due("which is hidden too", hidden(Boards.of("22/..")), "22hh");
        due("a cell beside a 1", Boards.of("22/1.").run(2), -1);
        due("which is hidden", hidden(Boards.of("22/1.")), "221h");
    }

    /** "it fills the first cell that it finds, by rising numbers": of the cells. */
    private static void aRuleTakesTheLowestCell() {
        for (int rule = 0; rule <= 2; rule += 2) {
            FieldFiller x = Boards.of("33./3.4/444");
            due("rule " + rule + " in the first of two cells", x.run(rule), 21);
            due("rule " + rule + " in the other", x.run(rule), 41);
            due("rule " + rule + " in no more", x.run(rule), -1);
            due("rule " + rule + " has solved it", x.isSolved(), true);
        }
        FieldFiller ends = Boards.of("2.../1..1/...2");
        due("rule 1 for the first of two fields", ends.run(1), 12);
        due("rule 1 for the other", ends.run(1), 102);
        due("rule 1 for no more", ends.run(1), -1);
        FieldFiller later = Boards.of("131/.../21.");
        due("rule 1 in the lower cell, for the later field", later.run(1), 32);
        due("rule 1 then for the first field", later.run(1), 43);
        due("rule 1 for it once more", later.run(1), 53);
    }

    // ---- Promises 18 and 19: isSolved, solutions

    /** "A board is solved if all cells have numbers and each field has the size that its number tells." */
    private static void solvedBoards() {
        due("one field", Boards.of("44/44").isSolved(), true);
        due("but for the first cell", Boards.of(".4/44").isSolved(), false);
        due("but for the last cell", Boards.of("44/4.").isSolved(), false);
        due("but for the last cell, filled", Boards.of("44/4.", 3, 4).isSolved(), true);
        due("two fields", Boards.of("33/31").isSolved(), true);
        due("fields of one number", Boards.of("122/333/221").isSolved(), true);
        due("twelve cells", Boards.of("9993/9993/9993").isSolved(), true);
    }

    /** "Returns how many there are; most if there are more": boards with just 0, 1, 2, .. 7 solutions. */
    private static void mostIfThereAreMore() {
        String[] pictures = {"..1/.1.", "..1/.2.", "..1/.3.", ".../.1.", "..4/.4.", ".../.5.", "..1/...", "..3/..."};
        for (int count = 0; count < pictures.length; count++) {
            for (int most = 1; most <= 5; most++) {
                due(pictures[count] + " solutions(" + most + ")",
                        Boards.of(pictures[count]).solutions(most), Math.min(count, most));
            }
            due(pictures[count] + " as the other writing counts", plainCount(pictures[count]), count);
        }
        due("the one solution of 9", Boards.of("9../.../...").solutions(5), 1);
        due("the one solution of 8 and 1", Boards.of("8../.../..1").solutions(5), 1);
        due("8 and any 1", Boards.of("8../.../...").solutions(5), 5);
        due("one of 8 round a 1", Boards.of("8../.1./..8").solutions(5), 1);
        due("none of a field without a shape", Boards.of("2.../.2..").solutions(5), 0);
        FieldFiller filled = Boards.of(".../...", 2, 1, 4, 3);
        due("solutions with filled cells", filled.solutions(5), 2);
        filled.undo();
        due("solutions behind undo", filled.solutions(5), 5);
        due("solutions leave the log", Boards.undoAll(filled), " 2");
    }

    private static int plainCount(String picture) {
        PlainFiller plain = new PlainFiller();
        plain.lay(2, 3);
        String cells = picture.replace("/", "");
        for (int cell = 0; cell < cells.length(); cell++) {
            plain.clue(cell, cells.charAt(cell) == '.' ? 0 : cells.charAt(cell) - '0');
        }
        return plain.solutionsOfAllBoards();
    }
}
