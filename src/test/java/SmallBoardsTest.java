/**
 * Each sound board of small sizes, from the empty one to each full one, compared with PlainFiller:
 * all that the calls tell of it, each number in each cell, and each rule.
 */
final class SmallBoardsTest {
    private static final Check CHECK = new Check();

    private final int rows;
    private final int columns;
    private final int[] numbers;
    /** How many cells at the end of the board are filled in; those before are clues. */
    private final int filled;

    private SmallBoardsTest(int rows, int columns, int[] numbers, int filled) {
        this.rows = rows;
        this.columns = columns;
        this.numbers = numbers;
        this.filled = filled;
    }

    public static void main(String[] args) {
        for (int filled = 0; filled <= 4; filled++) {
            CHECK.same("sound boards of 2x2", boards(2, 2, new int[4], 0, filled), 118);
        }
        CHECK.same("sound boards of 2x3", boards(2, 3, new int[6], 0, 0), 3076);
        CHECK.same("sound boards of 3x2", boards(3, 2, new int[6], 0, 3), 3076);
        CHECK.end();
    }

    /** Compares each sound board that has the numbers below a cell; answers how many they are. */
    private static int boards(int rows, int columns, int[] numbers, int cell, int filled) {
        SmallBoardsTest test = new SmallBoardsTest(rows, columns, numbers, filled);
        // A board without some of the numbers of a sound one is sound too: no other one is left out.
        if (test.plainBoard() == null) {
            return 0;
        }
        if (cell == numbers.length) {
            test.compare();
            return 1;
        }
        int count = 0;
        for (int number = 0; number <= numbers.length; number++) {
            numbers[cell] = number;
            count += boards(rows, columns, numbers, cell + 1, filled);
        }
        numbers[cell] = 0;
        return count;
    }

    /** The board as PlainFiller has it; null if it is not sound. */
    private PlainFiller plainBoard() {
        PlainFiller plain = new PlainFiller();
        plain.lay(rows, columns);
        try {
            for (int cell = 0; cell < numbers.length; cell++) {
                if (numbers[cell] != 0 && cell < numbers.length - filled) {
                    plain.clue(cell, numbers[cell]);
                } else if (numbers[cell] != 0) {
                    plain.fill(cell, numbers[cell]);
                }
            }
        } catch (IllegalStateException e) {
            return null;
        }
        return plain;
    }

    private FieldFiller board() {
        FieldFiller x = new FieldFiller();
        x.lay(rows, columns);
        for (int cell = 0; cell < numbers.length; cell++) {
            if (numbers[cell] != 0 && cell < numbers.length - filled) {
                x.clue(cell, numbers[cell]);
            } else if (numbers[cell] != 0) {
                x.fill(cell, numbers[cell]);
            }
        }
        return x;
    }

    private void compare() {
        StringBuilder text = new StringBuilder().append(rows).append('x').append(columns).append(' ');
        for (int number : numbers) {
            text.append(number);
        }
        String name = text.append(", ").append(filled).append(" cells to fill: ").toString();
        FieldFiller x = board();
        PlainFiller plain = plainBoard();
        CHECK.same(name + "area", x.area(), plain.area());
        CHECK.same(name + "filled", x.filled(), plain.filled());
        CHECK.same(name + "isSolved", x.isSolved(), plain.isSolved());
        for (int most = 1; most <= 5; most += 2) {
            CHECK.same(name + "solutions", x.solutions(most), plain.solutions(most));
        }
        for (int cell = 0; cell < numbers.length; cell++) {
            compareCell(name + cell, x, plain, cell);
        }
        compareRules(name);
        compareClues(name);
    }

    private void compareCell(String name, FieldFiller x, PlainFiller plain, int cell) {
        CHECK.same(name + " at", x.at(cell), plain.at(cell));
        CHECK.same(name + " isClue", x.isClue(cell), plain.isClue(cell));
        CHECK.same(name + " size", x.size(cell), plain.size(cell));
        CHECK.same(name + " room", x.room(cell), plain.room(cell));
        CHECK.same(name + " isHidden", x.isHidden(cell), plain.isHidden(cell));
        CHECK.same(name + " shapes", x.shapes(cell), plain.shapes(cell));
        for (int other = 0; other < numbers.length; other++) {
            CHECK.same(name + " shapesWith", x.shapesWith(cell, other), plain.shapesWith(cell, other));
        }
        for (int number = 1; number <= 9; number++) {
            boolean can = plain.canBe(cell, number);
            int put = number;
            CHECK.same(name + " canBe", x.canBe(cell, number), can);
            Object size = Check.outcome(() -> x.fill(cell, put));
            if (can) {
                plain.fill(cell, number);
                CHECK.same(name + " fill", size, plain.size(cell));
                CHECK.same(name + " undo", x.undo(), plain.undo());
            } else {
                CHECK.same(name + " fill", size, "throws.IllegalStateException");
            }
        }
    }

    private void compareRules(String name) {
        for (int rule = 0; rule <= 2; rule++) {
            FieldFiller x = board();
            PlainFiller plain = plainBoard();
            CHECK.same(name + "run " + rule, x.run(rule), plain.run(rule));
            CHECK.same(name + "filled behind run " + rule, x.filled(), plain.filled());
            for (int cell = 0; cell < numbers.length; cell++) {
                CHECK.same(name + "at behind run " + rule, x.at(cell), plain.at(cell));
            }
        }
    }

    /** Each number as a clue in the first and the last cell. */
    private void compareClues(String name) {
        for (int cell = 0; cell < numbers.length; cell += numbers.length - 1) {
            for (int number = 0; number <= numbers.length; number++) {
                FieldFiller x = board();
                PlainFiller plain = plainBoard();
                int there = cell;
                int put = number;
                CHECK.same(name + "clue in " + cell + " of " + number,
                        Check.outcome(() -> x.clue(there, put)), Check.outcome(() -> plain.clue(there, put)));
                for (int other = 0; other < numbers.length; other++) {
                    CHECK.same(name + "at behind clue", x.at(other), plain.at(other));
                }
                CHECK.same(name + "filled behind clue", x.filled(), plain.filled());
            }
        }
    }
}
