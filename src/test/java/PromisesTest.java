/** The promises of the document, one by one: ordinary inputs, edges, wrong inputs. */
final class PromisesTest {
    private static final Check CHECK = new Check();
    private static final Class<IndexOutOfBoundsException> NO_CELL = IndexOutOfBoundsException.class;
    private static final Class<IllegalArgumentException> BAD = IllegalArgumentException.class;
    private static final Class<IllegalStateException> REFUSED = IllegalStateException.class;
    private static final int[] NO_CELLS = {-1, 9, 12, 31, 32, 64, Integer.MIN_VALUE, Integer.MAX_VALUE};
    private static final int[] NO_NUMBERS = {0, -1, 10, Integer.MIN_VALUE, Integer.MAX_VALUE};

    /** A call that is tried with one argument after another. */
    interface CallWith {
        Object answer(int argument);
    }

    public static void main(String[] args) {
        newObject();
        lay();
        clue();
        clueEmptiesWhatWasFilledIn();
        make();
        makeBySearch();
        fill();
        undo();
        runOneNumber();
        runAllShapes();
        runHiddenOne();
        runWrong();
        filled();
        area();
        at();
        isClue();
        size();
        room();
        canBe();
        isHidden();
        shapes();
        shapesWith();
        isSolved();
        solutions();
        CHECK.end();
    }

    private static void due(String what, Object got, Object due) {
        CHECK.same(what, got, due);
    }

    /** Checks that a call throws, and that nothing is changed by it. */
    private static void refuses(String what, FieldFiller x, Class<? extends RuntimeException> due, Check.Call call) {
        String before = state(x);
        CHECK.refuses(what, due, call);
        due(what + " changes nothing", state(x), before);
    }

    /** Checks that a call throws with each of the arguments, and that nothing is changed by all of them. */
    private static void refusesEach(String what, FieldFiller x, Class<? extends RuntimeException> due,
            int[] arguments, CallWith call) {
        String before = state(x);
        for (int argument : arguments) {
            CHECK.refuses(what + ", with " + argument, due, () -> call.answer(argument));
        }
        due(what + " changes nothing", state(x), before);
    }

    /** Everything that the calls tell of an object that they do not change: 57 calls for 9 cells. */
    private static String state(FieldFiller x) {
        int area = x.area();
        StringBuilder text = new StringBuilder();
        text.append(area).append(' ').append(x.filled()).append(' ').append(x.isSolved()).append(' ');
        for (int cell = 0; cell < area; cell++) {
            text.append(x.at(cell)).append(x.isClue(cell) ? "c" : "").append(x.isHidden(cell) ? "h" : "");
            text.append(x.size(cell)).append('/').append(x.room(cell)).append('/').append(x.shapes(cell)).append(' ');
        }
        return text.toString();
    }

    /** The numbers of all cells, one digit each. */
    private static String numbers(FieldFiller x) {
        StringBuilder text = new StringBuilder();
        for (int cell = 0; cell < x.area(); cell++) {
            text.append(x.at(cell));
        }
        return text.toString();
    }

    private static FieldFiller board(int rows, int columns, int... cluesAndCells) {
        FieldFiller x = new FieldFiller();
        x.lay(rows, columns);
        for (int i = 0; i + 1 < cluesAndCells.length; i += 2) {
            x.clue(cluesAndCells[i], cluesAndCells[i + 1]);
        }
        return x;
    }

    // Promise 1
    private static void newObject() {
        FieldFiller x = new FieldFiller();
        due("new: area", x.area(), 9);
        due("new: numbers", numbers(x), "000000000");
        due("new: filled", x.filled(), 0);
        due("new: isSolved", x.isSolved(), false);
        // With 3 columns the cells 1 and 4 are neighbours.
        x.clue(1, 2);
        due("new: 3 columns", x.fill(4, 2), 2);
        due("new: 3 rows", state(board(3, 3)), state(new FieldFiller()));
        FieldFiller one = new FieldFiller();
        refuses("new: undo", one, REFUSED, one::undo);
        FieldFiller other = new FieldFiller();
        one.clue(0, 9);
        due("new: objects share nothing", numbers(other), "000000000");
    }

    // Promise 2
    private static void lay() {
        FieldFiller x = new FieldFiller();
        for (int rows = 2; rows <= 4; rows++) {
            for (int columns = 2; columns <= 4; columns++) {
                int r = rows;
                int c = columns;
                if (rows * columns <= 12) {
                    due("lay(" + r + ", " + c + ")", x.lay(r, c), r * c);
                    due("lay: area", x.area(), r * c);
                } else {
                    refuses("lay(" + r + ", " + c + ")", x, BAD, () -> x.lay(r, c));
                }
            }
        }
        layWrong();
        FieldFiller y = board(3, 3, 0, 3);
        y.fill(1, 3);
        refuses("lay(4, 4)", y, BAD, () -> y.lay(4, 4));
        due("lay the same again", y.lay(3, 3), 9);
        due("lay empties", state(y), state(new FieldFiller()));
        refuses("lay empties the log", y, REFUSED, y::undo);
        layTellsNeighbours();
    }

    private static void layWrong() {
        FieldFiller x = board(3, 3, 0, 3);
        x.fill(1, 3);
        int[] wrong = {1, 5, 0, -1, -3, Integer.MIN_VALUE, Integer.MAX_VALUE, 65536};
        refusesEach("lay of wrong rows", x, BAD, wrong, length -> x.lay(length, 3));
        refusesEach("lay of wrong columns", x, BAD, wrong, length -> x.lay(3, length));
        refusesEach("lay of wrong rows and columns", x, BAD, wrong, length -> x.lay(length, length));
    }

    private static void layTellsNeighbours() {
        for (int rows = 2; rows <= 4; rows++) {
            for (int columns = 2; columns <= 4 && rows * columns <= 12; columns++) {
                for (int a = 0; a < rows * columns; a++) {
                    for (int b = 0; b < rows * columns; b++) {
                        int apart = Math.abs(a / columns - b / columns) + Math.abs(a % columns - b % columns);
                        FieldFiller x = board(rows, columns, a, 2, b, 2);
                        due(rows + "x" + columns + " cells " + a + " and " + b, x.size(a), apart == 1 ? 2 : 1);
                    }
                }
            }
        }
    }

    // Promise 3
    private static void clue() {
        FieldFiller x = new FieldFiller();
        due("clue where none was", x.clue(0, 3), 0);
        due("clue is there", x.at(0), 3);
        due("clue in place of another", x.clue(0, 9), 3);
        due("clue taken away", x.clue(0, 0), 9);
        due("clue taken away where none is", x.clue(0, 0), 0);
        due("clue of the same number", board(3, 3, 4, 5).clue(4, 5), 5);
        due("clue taken away leaves it empty", numbers(x), "000000000");
        clueWrong();
        FieldFiller pair = board(3, 3, 0, 2, 1, 2, 2, 3);
        refuses("clue: too large a field in place of a clue", pair, REFUSED, () -> pair.clue(2, 2));
        FieldFiller z = board(2, 2);
        refuses("clue: too little room", z, REFUSED, () -> z.clue(0, 5));
        due("clue: just the room", z.clue(0, 4), 0);
        refuses("clue: too little room for another field", z, REFUSED, () -> z.clue(3, 3));
        due("clue: just joins", z.clue(3, 4), 0);
        // The field of 2 in the corner keeps no room when both cells beside it are taken.
        FieldFiller corner = board(3, 3, 0, 2, 1, 1);
        refuses("clue: shuts a field in", corner, REFUSED, () -> corner.clue(3, 3));
        due("clue: may grow the field", corner.clue(3, 2), 0);
    }

    private static void clueWrong() {
        FieldFiller x = board(3, 3, 0, 1, 8, 5);
        x.fill(1, 2);
        refusesEach("clue in no cell", x, NO_CELL, NO_CELLS, cell -> x.clue(cell, 1));
        refusesEach("clue in no cell before number", x, NO_CELL, NO_CELLS, cell -> x.clue(cell, 10));
        refusesEach("clue away in no cell", x, NO_CELL, NO_CELLS, cell -> x.clue(cell, 0));
        FieldFiller y = board(3, 3, 0, 1, 8, 5);
        y.fill(1, 2);
        int[] noNumbers = {-1, 10, Integer.MIN_VALUE, Integer.MAX_VALUE};
        refusesEach("clue of no number", y, BAD, noNumbers, number -> y.clue(0, number));
        refuses("clue: too large a field", y, REFUSED, () -> y.clue(1, 1));
    }

    private static void clueEmptiesWhatWasFilledIn() {
        FieldFiller x = board(3, 3, 0, 3);
        x.fill(1, 3);
        x.fill(8, 2);
        refuses("clue that is not sound", x, REFUSED, () -> x.clue(1, 9));
        due("clue on a filled cell", x.clue(1, 2), 0);
        due("clue keeps clues alone", numbers(x), "320000000");
        due("clue: filled", x.filled(), 0);
        refuses("clue: log", x, REFUSED, x::undo);
        FieldFiller y = board(3, 3, 0, 3);
        y.fill(1, 3);
        due("clue away from a filled cell", y.clue(1, 0), 0);
        due("clue away empties filled cells", numbers(y), "300000000");
        FieldFiller z = board(2, 2, 0, 1);
        z.fill(1, 3);
        // Sound for the clues alone, if not with what was filled in.
        due("clue looks at the clues alone", z.clue(3, 1), 0);
        due("clue looks at the clues alone: numbers", numbers(z), "1001");
        due("clue looks at the clues alone: filled", z.filled(), 0);
    }

    // Promise 4
    private static void make() {
        FieldFiller x = board(3, 3, 0, 4);
        x.fill(1, 4);
        refusesEach("make", x, BAD, new int[] {-1, Integer.MIN_VALUE}, x::make);
        due("make(1)", x.make(1), 3);
        due("make: filled", x.filled(), 0);
        due("make: one solution", x.solutions(5), 1);
        due("make: number in 1", x.at(1), 9);
        String made = state(x);
        refuses("make: log", x, REFUSED, x::undo);
        x.make(2);
        x.make(1);
        due("make tells the same again", state(x), made);
        for (int[] sides : new int[][] {{2, 2}, {2, 3}, {3, 2}, {2, 4}, {4, 2}, {3, 3}, {3, 4}, {4, 3}}) {
            for (int seed : new int[] {0, 1, 7, 65536, 1000000007, Integer.MAX_VALUE}) {
                makes(sides[0], sides[1], seed);
            }
        }
    }

    private static void makes(int rows, int columns, int seed) {
        String name = rows + "x" + columns + " make(" + seed + ")";
        FieldFiller x = board(rows, columns);
        PlainFiller plain = new PlainFiller();
        plain.lay(rows, columns);
        due(name, x.make(seed), plain.make(seed));
        due(name + ": area", x.area(), rows * columns);
        due(name + ": one solution", x.solutions(5), 1);
        for (int cell = 0; cell < x.area(); cell++) {
            due(name + ": at", x.at(cell), plain.at(cell));
            due(name + ": isClue", x.isClue(cell), x.at(cell) != 0);
        }
    }

    /** Boards that were made by another program, written apart from this one after the document. */
    private static void makeBySearch() {
        made(2, 2, 0, "1000");
        made(2, 2, 5, "1030");
        made(2, 2, 123456789, "1030");
        made(2, 2, 2147483647, "1000");
        made(2, 3, 0, "100004");
        made(2, 3, 2147483647, "120300");
        made(3, 2, 0, "100004");
        made(3, 2, 2147483647, "100200");
        made(2, 4, 0, "14000042");
        made(2, 4, 5, "00880088");
        made(4, 2, 123456789, "10060100");
        made(4, 2, 2147483647, "00323302");
        made(3, 3, 0, "140004204");
        made(3, 3, 123456789, "999090009");
        made(3, 4, 0, "100004401050");
        made(3, 4, 2147483647, "900009902901");
        made(4, 3, 5, "808000882882");
        made(4, 3, 123456789, "999033003009");
    }

    private static void made(int rows, int columns, int seed, String due) {
        FieldFiller x = board(rows, columns);
        x.make(seed);
        due(rows + "x" + columns + " make(" + seed + "): numbers", numbers(x), due);
    }

    // Promise 5
    private static void fill() {
        FieldFiller x = board(3, 3, 0, 3);
        due("fill alone", x.fill(8, 2), 1);
        due("fill joins", x.fill(1, 3), 2);
        due("fill is there", numbers(x), "330000002");
        due("fill sets no clue", x.isClue(1), false);
        due("fill to the full", x.fill(2, 3), 3);
        due("fill joins two fields", twoFieldsJoined(), 5);
        fillWrong();
        refuses("fill a clue", x, REFUSED, () -> x.fill(0, 3));
        refuses("fill a filled cell", x, REFUSED, () -> x.fill(8, 2));
        refuses("fill: too large a field", x, REFUSED, () -> x.fill(5, 3));
        refuses("fill: too little room", x, REFUSED, () -> x.fill(5, 6));
        due("fill: just the room", x.fill(5, 5), 1);
        FieldFiller corner = board(3, 3, 0, 2, 1, 1);
        refuses("fill: shuts a field in", corner, REFUSED, () -> corner.fill(3, 1));
        FieldFiller whole = board(2, 2);
        due("fill whole", whole.fill(0, 4) + whole.fill(1, 4) + whole.fill(2, 4) + whole.fill(3, 4), 10);
    }

    private static void fillWrong() {
        FieldFiller x = board(3, 3, 0, 3);
        x.fill(8, 2);
        refusesEach("fill no cell", x, NO_CELL, NO_CELLS, cell -> x.fill(cell, 1));
        refusesEach("fill no cell before number", x, NO_CELL, NO_CELLS, cell -> x.fill(cell, 0));
        refusesEach("fill no number", x, BAD, NO_NUMBERS, number -> x.fill(4, number));
        refusesEach("fill no number before state", x, BAD, NO_NUMBERS, number -> x.fill(0, number));
    }

    private static int twoFieldsJoined() {
        return board(3, 3, 0, 5, 1, 5, 7, 5, 8, 5).fill(4, 5);
    }

    // Promise 6
    private static void undo() {
        FieldFiller x = board(3, 3, 0, 3);
        refuses("undo without a filled cell", x, REFUSED, x::undo);
        x.fill(1, 3);
        x.fill(8, 1);
        x.fill(2, 3);
        due("undo the last", x.undo(), 2);
        due("undo empties", numbers(x), "330000001");
        due("undo the one before", x.undo(), 8);
        due("undo: filled", x.filled(), 1);
        due("fill after undo", x.fill(3, 3), 3);
        due("undo that", x.undo(), 3);
        due("undo the first", x.undo(), 1);
        refuses("undo once too often", x, REFUSED, x::undo);
        due("undo leaves clues", numbers(x), "300000000");
        FieldFiller full = board(3, 4);
        for (int cell = 0; cell < 12; cell++) {
            full.fill(cell, cell < 9 ? 9 : 3);
        }
        due("twelve cells filled", full.filled(), 12);
        for (int cell = 11; cell >= 0; cell--) {
            due("undo all", full.undo(), cell);
        }
        FieldFiller rule = board(2, 2, 0, 4);
        due("run", rule.run(0), 14);
        due("undo what a rule filled", rule.undo(), 1);
        due("undo what a rule filled: numbers", numbers(rule), "4000");
    }

    // Promise 7
    private static void runOneNumber() {
        FieldFiller x = board(2, 2, 0, 4);
        due("run(0)", x.run(0), 14);
        due("run(0) again", x.run(0), 24);
        due("run(0) to the end", x.run(0), 34);
        due("run(0): filled", x.filled(), 3);
        due("run(0) on a full board", x.run(0), -1);
        FieldFiller none = board(3, 3);
        due("run(0) finds none", none.run(0), FieldFiller.NONE);
        due("run(0) finds none: filled", none.filled(), 0);
        // Nothing can be put into the cells 1 and 2, and that is not just one number.
        FieldFiller shut = board(2, 2, 0, 1, 3, 1);
        due("run(0) where no number can be put", shut.run(0), -1);
        due("run(0) where no number can be put: numbers", numbers(shut), "1001");
    }

    private static void runAllShapes() {
        FieldFiller x = board(4, 2, 0, 4, 1, 4, 7, 4, 6, 1);
        due("run(1)", x.run(1), 24);
        due("run(1): filled", x.filled(), 1);
        due("run(1) finds none", x.run(1), -1);
        due("run(1) on an empty board", board(3, 3).run(1), -1);
        due("run(1) on full fields", board(3, 3, 0, 1, 4, 1).run(1), -1);
        due("run(1) the only cell beside", board(2, 4, 0, 2, 4, 1).run(1), 12);
        due("run(1) with several shapes", board(3, 3, 3, 1, 4, 2).run(1), -1);
        due("run(1) of the whole board", board(3, 3, 8, 9).run(1), 9);
        // The field of the cell 0 has no shape, so that it has no cell to fill.
        due("run(1) without a shape", board(2, 4, 0, 2, 5, 2).run(1), 62);
        runAllShapesOfSeveralFields();
    }

    private static void runAllShapesOfSeveralFields() {
        // Both corners must grow: the cell with the lower number is filled, whichever the field is.
        FieldFiller x = board(3, 3, 0, 2, 3, 1, 8, 2, 7, 1);
        due("run(1) lowest cell first", x.run(1), 12);
        FieldFiller filled = board(3, 3);
        filled.fill(0, 2);
        filled.fill(3, 1);
        due("run(1) of a filled field", filled.run(1), 12);
        due("run(1) then the other", x.run(1), 52);
        // The field of the cell 1 comes before that of the cell 6, but its cell to fill, 4, does not come before 3.
        due("run(1) by cells, not by fields", board(3, 3, 0, 1, 1, 3, 2, 1, 6, 2, 7, 1).run(1), 32);
        due("run(1) of two fields the first", board(2, 4, 2, 4, 1, 3, 0, 4, 7, 3).run(1), 34);
        due("run(1) of two fields the first again", board(4, 2, 1, 2, 2, 2, 3, 3, 6, 3).run(1), 42);
    }

    private static void runHiddenOne() {
        // The cell 3 has no empty neighbour, and the fields beside it are full.
        FieldFiller x = board(2, 2, 0, 3, 1, 3);
        due("run(2) where a field reaches", x.run(2), -1);
        x.fill(2, 3);
        due("run(2)", x.run(2), 31);
        due("run(2): filled", x.filled(), 2);
        due("run(2) again", x.run(2), -1);
        due("run(2) beside empty cells", board(3, 3).run(2), -1);
        FieldFiller corner = board(2, 2, 0, 2, 1, 2, 2, 1);
        due("run(2): hidden beside a 1", corner.isHidden(3), true);
        due("run(2): not beside a 1", corner.run(2), -1);
        FieldFiller two = board(3, 3, 1, 2, 4, 2, 3, 3, 6, 3, 7, 3, 5, 3);
        due("run(2) the lowest cell first", two.run(2), 1);
    }

    private static void runWrong() {
        FieldFiller x = board(2, 2, 0, 4);
        refusesEach("run of no rule", x, BAD, new int[] {-1, 3, 4, Integer.MIN_VALUE, Integer.MAX_VALUE}, x::run);
    }

    // Promise 8
    private static void filled() {
        FieldFiller x = board(3, 3, 0, 3);
        due("filled: clues do not count", x.filled(), 0);
        x.fill(1, 3);
        due("filled", x.filled(), 1);
        x.fill(2, 3);
        due("filled two", x.filled(), 2);
        x.undo();
        due("filled after undo", x.filled(), 1);
        x.lay(3, 3);
        due("filled after lay", x.filled(), 0);
        x.fill(0, 1);
        x.make(3);
        due("filled after make", x.filled(), 0);
    }

    // Promise 9
    private static void area() {
        due("area of a new board", new FieldFiller().area(), 9);
        due("area 2x2", board(2, 2).area(), 4);
        due("area 4x3", board(4, 3, 11, 2).area(), 12);
    }

    // Promise 10
    private static void at() {
        FieldFiller x = board(3, 3, 0, 9);
        x.fill(8, 9);
        due("at a clue", x.at(0), 9);
        due("at a filled cell", x.at(8), 9);
        due("at an empty cell", x.at(4), 0);
        for (int number = 1; number <= 9; number++) {
            due("at " + number, board(3, 3, 4, number).at(4), number);
        }
        refusesEach("at no cell", x, NO_CELL, NO_CELLS, x::at);
        FieldFiller small = board(2, 2);
        refuses("at(4) of 4 cells", small, NO_CELL, () -> small.at(4));
        due("at(11) of 12 cells", board(4, 3).at(11), 0);
    }

    // Promise 11
    private static void isClue() {
        FieldFiller x = board(3, 3, 0, 9);
        x.fill(8, 9);
        due("isClue of a clue", x.isClue(0), true);
        due("isClue of a filled cell", x.isClue(8), false);
        due("isClue of an empty cell", x.isClue(4), false);
        x.clue(0, 0);
        due("isClue of a clue taken away", x.isClue(0), false);
        refusesEach("isClue no cell", x, NO_CELL, NO_CELLS, x::isClue);
    }

    // Promise 12
    private static void size() {
        FieldFiller x = board(3, 3, 0, 4, 1, 4, 3, 3, 8, 4);
        due("size of two", x.size(0), 2);
        due("size from the other cell", x.size(1), 2);
        due("size of one", x.size(3), 1);
        due("size of a field apart", x.size(8), 1);
        due("size of an empty cell", x.size(4), 0);
        x.fill(2, 4);
        due("size with a filled cell", x.size(0), 3);
        due("size of a filled cell", x.size(2), 3);
        refusesEach("size no cell", x, NO_CELL, NO_CELLS, x::size);
    }

    // Promise 13
    private static void room() {
        FieldFiller x = board(3, 3, 0, 3);
        due("room of the whole board", x.room(0), 9);
        x.clue(1, 2);
        x.clue(4, 2);
        due("room beside another field", x.room(0), 7);
        x.clue(7, 4);
        due("room between other fields", x.room(0), 3);
        due("room behind other fields", x.room(7), 6);
        due("room of a full field", x.room(1), 7);
        due("room over another field of the number", board(2, 4, 0, 5, 2, 5, 7, 5).room(0), 8);
        due("room of an empty cell", x.room(8), 0);
        x.fill(5, 1);
        due("room beside a filled cell", x.room(7), 4);
        due("room of a filled cell", x.room(5), 3);
        refusesEach("room no cell", x, NO_CELL, NO_CELLS, x::room);
    }

    // Promise 14
    private static void canBe() {
        FieldFiller x = board(3, 3, 0, 3, 8, 1);
        String before = state(x);
        due("canBe", x.canBe(1, 3), true);
        due("canBe of 1", x.canBe(1, 1), true);
        due("canBe: too large a field", x.canBe(7, 1), false);
        due("canBe: too little room", x.canBe(1, 9), false);
        due("canBe: a clue", x.canBe(0, 3), false);
        due("canBe changes nothing", state(x), before);
        x.fill(1, 3);
        due("canBe: a filled cell", x.canBe(1, 3), false);
        due("canBe: to the full with a filled cell", x.canBe(2, 3), true);
        x.fill(3, 3);
        due("canBe: too large a field with filled cells", x.canBe(2, 3), false);
        FieldFiller corner = board(3, 3, 0, 2, 1, 1);
        due("canBe: shuts a field in", corner.canBe(3, 5), false);
        due("canBe: grows the field", corner.canBe(3, 2), true);
        canBeWrong();
    }

    private static void canBeWrong() {
        FieldFiller x = board(3, 3, 0, 3, 8, 1);
        refusesEach("canBe in no cell", x, NO_CELL, NO_CELLS, cell -> x.canBe(cell, 1));
        refusesEach("canBe in no cell before number", x, NO_CELL, NO_CELLS, cell -> x.canBe(cell, 10));
        refusesEach("canBe no number", x, BAD, NO_NUMBERS, number -> x.canBe(1, number));
        refusesEach("canBe no number in a clue", x, BAD, NO_NUMBERS, number -> x.canBe(0, number));
    }

    // Promise 15
    private static void isHidden() {
        FieldFiller x = board(3, 4);
        due("isHidden on an empty board", x.isHidden(0), true);
        x.clue(0, 3);
        due("isHidden: one step", x.isHidden(1), false);
        due("isHidden: as many as it lacks", x.isHidden(2), false);
        due("isHidden: one more", x.isHidden(3), true);
        due("isHidden: a clue", x.isHidden(0), false);
        x.clue(1, 1);
        due("isHidden: behind another field", x.isHidden(2), true);
        due("isHidden: beside it", x.isHidden(5), false);
        x.fill(5, 2);
        x.fill(6, 2);
        due("isHidden: a filled cell", x.isHidden(5), false);
        x.fill(4, 3);
        due("isHidden: no more steps of a larger field", x.isHidden(9), true);
        due("isHidden: one step of a larger field", x.isHidden(8), false);
        FieldFiller full = board(2, 2, 0, 1);
        due("isHidden beside a full field", full.isHidden(1), true);
        // A row goes over empty cells alone: the field of the cell 0 comes to 3 over another field of 6 alone.
        FieldFiller row = board(3, 4, 2, 1, 0, 6, 5, 6, 6, 6, 10, 6, 9, 6, 8, 6);
        due("isHidden: not over another field of the number", row.isHidden(3), true);
        due("isHidden: beside that field", row.isHidden(7), false);
        FieldFiller nine = board(3, 3);
        refusesEach("isHidden no cell", nine, NO_CELL, NO_CELLS, nine::isHidden);
    }

    // Promise 16
    private static void shapes() {
        FieldFiller x = board(3, 3, 0, 3);
        due("shapes", x.shapes(0), 5);
        due("shapes of an empty cell", x.shapes(4), 0);
        x.fill(1, 3);
        x.fill(2, 3);
        due("shapes of a full field", x.shapes(2), 1);
        due("shapes with a filled cell", shapesWithFilledCell(), 3);
        due("shapes over two fields", board(4, 2, 0, 4, 1, 4, 7, 4).shapes(0), 2);
        due("shapes of 1", board(2, 2, 0, 1).shapes(0), 1);
        due("shapes of the whole board", board(3, 3, 4, 9).shapes(4), 1);
        due("shapes beside the number", board(2, 4, 0, 2, 2, 2).shapes(0), 1);
        // Each way to grow the field 0 would lie beside the field 3 without it.
        due("no shape", board(2, 4, 0, 2, 5, 2).shapes(0), 0);
        refusesEach("shapes no cell", x, NO_CELL, NO_CELLS, x::shapes);
    }

    private static int shapesWithFilledCell() {
        FieldFiller x = board(3, 3, 0, 3);
        x.fill(1, 3);
        return x.shapes(0);
    }

    // Promise 17
    private static void shapesWith() {
        FieldFiller x = board(3, 3, 0, 3);
        due("shapesWith a neighbour", x.shapesWith(0, 1), 3);
        due("shapesWith a far cell", x.shapesWith(0, 8), 0);
        due("shapesWith a cell of two steps", x.shapesWith(0, 2), 1);
        due("shapesWith itself", x.shapesWith(0, 0), 5);
        due("shapesWith of an empty cell", x.shapesWith(1, 0), 0);
        due("shapesWith after another field", x.shapesWith(0, 4), 2);
        refusesEach("shapesWith of no cell", x, NO_CELL, NO_CELLS, cell -> x.shapesWith(cell, 0));
        refusesEach("shapesWith no other cell", x, NO_CELL, NO_CELLS, cell -> x.shapesWith(0, cell));
        refusesEach("shapesWith no other cell, of an empty one", x, NO_CELL, NO_CELLS, cell -> x.shapesWith(1, cell));
    }

    // Promise 18
    private static void isSolved() {
        FieldFiller x = board(2, 2, 0, 4, 1, 4, 2, 4);
        due("isSolved but for a cell", x.isSolved(), false);
        x.fill(3, 4);
        due("isSolved", x.isSolved(), true);
        x.undo();
        due("isSolved no more", x.isSolved(), false);
        due("isSolved by clues", board(2, 2, 0, 3, 1, 3, 2, 3, 3, 1).isSolved(), true);
        due("isSolved with two fields of a number",
                board(3, 3, 0, 1, 1, 2, 2, 2, 3, 3, 4, 3, 5, 3, 6, 2, 7, 2, 8, 1).isSolved(), true);
        due("isSolved empty", board(2, 2).isSolved(), false);
    }

    // Promise 19
    private static void solutions() {
        for (int most = 1; most <= 5; most++) {
            due("solutions(" + most + ") of many", board(3, 3).solutions(most), most);
        }
        due("solutions: just 5", board(2, 2).solutions(5), 5);
        FieldFiller x = board(2, 2);
        x.clue(0, 1);
        due("solutions: one", x.solutions(5), 1);
        due("solutions: one of one", x.solutions(1), 1);
        due("solutions changes nothing", numbers(x), "1000");
        x.clue(3, 1);
        due("solutions: none", x.solutions(5), 0);
        due("solutions of a solved board", board(2, 2, 0, 4, 1, 4, 2, 4, 3, 4).solutions(5), 1);
        FieldFiller y = board(2, 2);
        y.fill(0, 3);
        due("solutions with what is filled in", y.solutions(5), 3);
        due("solutions, at most 2", y.solutions(2), 2);
        due("solutions, just 3", y.solutions(3), 3);
        int[] noMosts = {0, 6, -1, Integer.MIN_VALUE, Integer.MAX_VALUE};
        refusesEach("solutions, wrong most", y, BAD, noMosts, y::solutions);
    }
}
