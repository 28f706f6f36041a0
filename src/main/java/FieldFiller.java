/**
 * A workshop for boards of fields that are as large as their numbers: cells are filled, fields grow
 * together as they are, fields that would be too large or could not grow any more are refused, cells
 * that no known field reaches are told, shapes of fields are listed, rules are run one at a time,
 * solutions are counted, and boards are made that have one solution.
 */
public final class FieldFiller {
    /** None. */
    public static final int NONE = -1;

    private static final int SHORTEST_SIDE = 2;
    private static final int LONGEST_SIDE = 4;
    private static final int MOST_CELLS = 12;
    private static final int HIGHEST_NUMBER = 9;
    private static final int MOST_SOLUTIONS = 5;

    /** The clues alone; always sound. */
    private final Board clues;
    /** The clues and what was filled in; always sound. */
    private final Board board;
    /** The cells that were filled in, by the order of that: as many as logged tells. */
    private final int[] log;
    private int logged;

    // Made once, so that calls need no new rows; they keep nothing from one call to the next.
    private final Shapes shapeList;
    private final Solver solver;

    /** A board of 3 rows and 3 columns, empty. */
    public FieldFiller() {
        clues = new Board(3, 3);
        board = new Board(3, 3);
        log = new int[MOST_CELLS];
        logged = 0;
        shapeList = new Shapes();
        solver = new Solver();
    }

    // ---- boards

    /**
     * Lays an empty board.
     *
     * @param rows 2 to 4
     * @param columns 2 to 4
     * @return how many cells it has
     * @throws IllegalArgumentException if rows or columns is out of range, or there would be more
     *     than 12 cells
     */
    public int lay(int rows, int columns) throws IllegalArgumentException {
        if (!isSide(rows) || !isSide(columns) || rows * columns > MOST_CELLS) {
            throw new IllegalArgumentException("a board has 2 to 4 rows and columns, and at most 12 cells");
        }
        clues.layOut(rows, columns);
        showCluesAlone();
        return board.cellCount();
    }

    /**
     * Sets a clue, or takes away what is in a cell. All cells that were filled in become empty by
     * this, and the log is empty then.
     *
     * @param cell a cell
     * @param number 1 to 9, or 0 for no clue
     * @return the clue that was there; 0 for none
     * @throws IndexOutOfBoundsException if there is no such cell
     * @throws IllegalArgumentException if number is out of range
     * @throws IllegalStateException if the board of clues would not be sound
     */
    public int clue(int cell, int number)
            throws IndexOutOfBoundsException, IllegalArgumentException, IllegalStateException {
        requireCell(cell);
        if (number != 0) {
            requireNumber(number);
        }
        int before = clues.numberIn(cell);
        clues.write(cell, number);
        if (!clues.isSound()) {
            clues.write(cell, before);
            throw new IllegalStateException("the board of clues would not be sound");
        }
        showCluesAlone();
        return before;
    }

    /**
     * Makes a board of the size that there is. First a solved board is found, by a search that
     * begins in each cell with a drawn number, and all its cells become clues; then as many cells
     * are drawn as there are, and each loses its clue if the board has just one solution without it.
     *
     * @param seed 0 to 2147483647
     * @return how many clues the board has then
     * @throws IllegalArgumentException if seed is out of range
     */
    public int make(int seed) throws IllegalArgumentException {
        if (seed < 0) {
            throw new IllegalArgumentException("a seed is 0 to 2147483647");
        }
        Draws draws = new Draws(seed);
        clues.empty();
        solver.solveByDraws(clues, draws);
        int cells = clues.cellCount();
        for (int i = 0; i < cells; i++) {
            takeIfNotNeeded(draws.nextBelow(cells));
        }
        showCluesAlone();
        return cells - Integer.bitCount(clues.emptyCells());
    }

    // ---- filling

    /**
     * Fills an empty cell.
     *
     * @param cell a cell
     * @param number 1 to 9
     * @return the size of its field then
     * @throws IndexOutOfBoundsException if there is no such cell
     * @throws IllegalArgumentException if number is out of range
     * @throws IllegalStateException if the cell is not empty, or the number cannot be put there
     */
    public int fill(int cell, int number)
            throws IndexOutOfBoundsException, IllegalArgumentException, IllegalStateException {
        requireCell(cell);
        requireNumber(number);
        if (!board.canTake(cell, number)) {
            throw new IllegalStateException("the cell is not empty, or the number cannot be put there");
        }
        putAndLog(cell, number);
        return Integer.bitCount(board.fieldOf(cell));
    }

    /**
     * Empties the cell that was filled in last.
     *
     * @return the cell
     * @throws IllegalStateException if none was filled in
     */
    public int undo() throws IllegalStateException {
        if (logged <= 0 || logged > log.length) {
            throw new IllegalStateException("no cell was filled in");
        }
        logged--;
        int cell = log[logged];
        board.write(cell, 0);
        return cell;
    }

    /**
     * Runs a rule once: it fills the first cell that it finds, by rising numbers. The rule 0 finds
     * an empty cell into which just one number can be put, and puts it. The rule 1 finds an empty
     * cell into which the number of a field can be put whose size is below its number, which has a
     * shape, and all of whose shapes have the cell; of several such fields that with the lowest
     * cell counts. The rule 2 finds an empty cell that is hidden and has no empty neighbour, and
     * into which 1 can be put.
     *
     * @param rule 0 to 2
     * @return 10 times the cell, and the number, added; NONE if it finds none
     * @throws IllegalArgumentException if there is no such rule
     */
    public int run(int rule) throws IllegalArgumentException {
        int found;
        switch (rule) {
            case 0:
                found = findCellOfOneNumber();
                break;
            case 1:
                found = findCellOfAllShapes();
                break;
            case 2:
                found = findHiddenOne();
                break;
            default:
                throw new IllegalArgumentException("a rule is 0 to 2");
        }
        if (found != NONE) {
            putAndLog(found / 10, found % 10);
        }
        return found;
    }

    /** Returns how many cells were filled in. */
    public int filled() {
        return logged;
    }

    // ---- the board as it is

    /** Returns how many cells the board has. */
    public int area() {
        return board.cellCount();
    }

    /**
     * Returns the number in a cell.
     *
     * @param cell a cell
     * @return 1 to 9; 0 if it is empty
     * @throws IndexOutOfBoundsException if there is no such cell
     */
    public int at(int cell) throws IndexOutOfBoundsException {
        requireCell(cell);
        return board.numberIn(cell);
    }

    /**
     * Tells whether a cell has a clue.
     *
     * @param cell a cell
     * @return whether it has
     * @throws IndexOutOfBoundsException if there is no such cell
     */
    public boolean isClue(int cell) throws IndexOutOfBoundsException {
        requireCell(cell);
        return clues.numberIn(cell) != 0;
    }

    /**
     * Returns the size of the field of a cell.
     *
     * @param cell a cell
     * @return the size; 0 if the cell is empty
     * @throws IndexOutOfBoundsException if there is no such cell
     */
    public int size(int cell) throws IndexOutOfBoundsException {
        requireCell(cell);
        return Integer.bitCount(board.fieldOf(cell));
    }

    /**
     * Returns the room of the field of a cell.
     *
     * @param cell a cell
     * @return the room; 0 if the cell is empty
     * @throws IndexOutOfBoundsException if there is no such cell
     */
    public int room(int cell) throws IndexOutOfBoundsException {
        requireCell(cell);
        return Integer.bitCount(board.roomOf(cell));
    }

    /**
     * Tells whether a number can be put into a cell.
     *
     * @param cell a cell
     * @param number 1 to 9
     * @return whether it can; false if the cell is not empty
     * @throws IndexOutOfBoundsException if there is no such cell
     * @throws IllegalArgumentException if number is out of range
     */
    public boolean canBe(int cell, int number) throws IndexOutOfBoundsException, IllegalArgumentException {
        requireCell(cell);
        requireNumber(number);
        return board.canTake(cell, number);
    }

    /**
     * Tells whether a cell is hidden.
     *
     * @param cell a cell
     * @return whether it is; false if it is not empty
     * @throws IndexOutOfBoundsException if there is no such cell
     */
    public boolean isHidden(int cell) throws IndexOutOfBoundsException {
        requireCell(cell);
        return Board.has(board.hiddenCells(), cell);
    }

    /**
     * Returns how many shapes the field of a cell has.
     *
     * @param cell a cell
     * @return how many; 0 if the cell is empty
     * @throws IndexOutOfBoundsException if there is no such cell
     */
    public int shapes(int cell) throws IndexOutOfBoundsException {
        requireCell(cell);
        shapeList.list(board, cell);
        return shapeList.count;
    }

    /**
     * Returns in how many shapes of the field of a cell another cell is.
     *
     * @param cell a cell
     * @param other a cell
     * @return how many; 0 if the cell is empty
     * @throws IndexOutOfBoundsException if there is no such cell, of either
     */
    public int shapesWith(int cell, int other) throws IndexOutOfBoundsException {
        requireCell(cell);
        requireCell(other);
        shapeList.list(board, cell);
        return shapeList.countOfThoseWith(other);
    }

    /** Tells whether the board is solved. */
    public boolean isSolved() {
        // Fields that are not too large, and have room for their numbers without an empty cell, are full.
        return board.emptyCells() == 0 && board.isSound();
    }

    /**
     * Counts the solutions: the solved boards that have the numbers that there are now, and any in
     * the empty cells.
     *
     * @param most 1 to 5
     * @return how many there are; most if there are more
     * @throws IllegalArgumentException if most is out of range
     */
    public int solutions(int most) throws IllegalArgumentException {
        if (most < 1 || most > MOST_SOLUTIONS) {
            throw new IllegalArgumentException("most is 1 to 5");
        }
        return Solver.countSolutions(board, 0, most);
    }

    // ---- what several calls need

    private static boolean isSide(int length) {
        return length >= SHORTEST_SIDE && length <= LONGEST_SIDE;
    }

    private void requireCell(int cell) {
        if (cell < 0 || cell >= board.cellCount()) {
            throw new IndexOutOfBoundsException("there is no such cell");
        }
    }

    private static void requireNumber(int number) {
        if (number < 1 || number > HIGHEST_NUMBER) {
            throw new IllegalArgumentException("a number is 1 to 9");
        }
    }

    private void showCluesAlone() {
        board.copyFrom(clues);
        logged = 0;
    }

    private void putAndLog(int cell, int number) {
        if (logged >= 0 && logged < log.length) {
            board.write(cell, number);
            log[logged] = cell;
            logged++;
        }
    }

    /** Takes the clue of a cell away, if the board of clues has just one solution without it. */
    private void takeIfNotNeeded(int cell) {
        int number = clues.numberIn(cell);
        if (number == 0) {
            return;
        }
        clues.write(cell, 0);
        if (Solver.countSolutions(clues, 0, 2) != 1) {
            clues.write(cell, number);
        }
    }

    // ---- the rules: each finds 10 times a cell, and the number for it, added; or NONE

    private int findCellOfOneNumber() {
        for (int cell = 0; cell < board.cellCount(); cell++) {
            int number = onlyNumberFor(cell);
            if (number != 0) {
                return 10 * cell + number;
            }
        }
        return NONE;
    }

    /** Returns the number that can be put into a cell; 0 if there is none, or more than one. */
    private int onlyNumberFor(int cell) {
        int only = 0;
        for (int number = 1; number <= HIGHEST_NUMBER; number++) {
            if (board.canTake(cell, number)) {
                if (only != 0) {
                    return 0;
                }
                only = number;
            }
        }
        return only;
    }

    private int findCellOfAllShapes() {
        int foundCell = board.cellCount();
        int foundNumber = 0;
        int seen = board.emptyCells();
        for (int cell = 0; cell < board.cellCount(); cell++) {
            if (!Board.has(seen, cell)) {
                seen |= board.fieldOf(cell);
                // The fields come by their lowest cells, so a later one counts for a lower cell alone.
                int cellToFill = lowestCellOfAllShapes(cell, foundCell);
                if (cellToFill < foundCell) {
                    foundCell = cellToFill;
                    foundNumber = board.numberIn(cell);
                }
            }
        }
        return foundNumber == 0 ? NONE : 10 * foundCell + foundNumber;
    }

    /**
     * Returns the lowest empty cell below a limit that all shapes of the field of a cell have, and
     * that can take its number; the limit if there is none.
     */
    private int lowestCellOfAllShapes(int fieldCell, int limit) {
        int number = board.numberIn(fieldCell);
        shapeList.list(board, fieldCell);
        for (int cell = 0; cell < limit; cell++) {
            if (Board.has(shapeList.cellsOfAll, cell) && board.canTake(cell, number)) {
                return cell;
            }
        }
        return limit;
    }

    private int findHiddenOne() {
        int hidden = board.hiddenCells();
        for (int cell = 0; cell < board.cellCount(); cell++) {
            if (Board.has(hidden, cell) && !board.hasEmptyNeighbour(cell) && board.canTake(cell, 1)) {
                return 10 * cell + 1;
            }
        }
        return NONE;
    }

    /** Cells and their numbers. A set of cells is an int whose bit k tells whether the cell k is in it. */
    private static final class Board {
        /** The set of cells that has each number; the one for 0 is that of the empty cells. */
        private final int[] byNumber;
        private int columnCount;
        private int allCells;
        private int firstColumn;
        private int lastColumn;

        private Board(int rows, int columns) {
            byNumber = new int[HIGHEST_NUMBER + 1];
            layOut(rows, columns);
        }

        private void layOut(int rows, int columns) {
            columnCount = columns;
            allCells = bit(rows * columns) - 1;
            firstColumn = 0;
            for (int row = 0; row < rows; row++) {
                firstColumn |= bit(row * columns);
            }
            lastColumn = firstColumn << (columns - 1);
            empty();
        }

        /** Empties all cells. */
        private void empty() {
            for (int number = 0; number < byNumber.length; number++) {
                byNumber[number] = number == 0 ? allCells : 0;
            }
        }

        private void copyFrom(Board other) {
            columnCount = other.columnCount;
            allCells = other.allCells;
            firstColumn = other.firstColumn;
            lastColumn = other.lastColumn;
            for (int number = 0; number < byNumber.length && number < other.byNumber.length; number++) {
                byNumber[number] = other.byNumber[number];
            }
        }

        private static int bit(int cell) {
            return 1 << cell;
        }

        private static boolean has(int cells, int cell) {
            return (cells & bit(cell)) != 0;
        }

        /** Returns the set of the lowest cell of a set; an empty one has none. */
        private static int lowest(int cells) {
            return cells & -cells;
        }

        private int cellCount() {
            return Integer.bitCount(allCells);
        }

        /** Returns the cells that have a number; the empty ones for 0. */
        private int cellsWith(int number) {
            return number >= 0 && number < byNumber.length ? byNumber[number] : 0;
        }

        private int emptyCells() {
            return cellsWith(0);
        }

        /** Returns the number in a cell; 0 if it is empty. */
        private int numberIn(int cell) {
            for (int number = 1; number < byNumber.length; number++) {
                if (has(byNumber[number], cell)) {
                    return number;
                }
            }
            return 0;
        }

        /** Puts a number into a cell in place of what is there; 0 empties it. */
        private void write(int cell, int number) {
            for (int other = 0; other < byNumber.length; other++) {
                if (other == number) {
                    byNumber[other] |= bit(cell);
                } else {
                    byNumber[other] &= ~bit(cell);
                }
            }
        }

        /** Returns the neighbours of the cells of a set; those of each other are among them. */
        private int beside(int cells) {
            int left = (cells & ~firstColumn) >>> 1;
            int right = (cells & ~lastColumn) << 1;
            int above = cells >>> columnCount;
            int below = cells << columnCount;
            return (left | right | above | below) & allCells;
        }

        private boolean hasEmptyNeighbour(int cell) {
            return (beside(bit(cell)) & emptyCells()) != 0;
        }

        /** Returns the cells of a set, and those that rows of at most so many cells of a ground lead to. */
        private int spread(int cells, int ground, int steps) {
            int reached = cells;
            for (int step = 0; step < steps; step++) {
                int wider = reached | (beside(reached) & ground);
                if (wider == reached) {
                    return reached;
                }
                reached = wider;
            }
            return reached;
        }

        /** Returns the cells of the field of a cell; none if it is empty. */
        private int fieldOf(int cell) {
            int number = numberIn(cell);
            return number == 0 ? 0 : spread(bit(cell), cellsWith(number), MOST_CELLS);
        }

        /** Returns the cells that the room of the field of a cell counts; none if it is empty. */
        private int roomOf(int cell) {
            int number = numberIn(cell);
            return number == 0 ? 0 : spread(bit(cell), cellsWith(number) | emptyCells(), MOST_CELLS);
        }

        private boolean isSound() {
            for (int number = 1; number <= HIGHEST_NUMBER; number++) {
                if (hasTooLargeField(number) || hasTooLittleRoom(number)) {
                    return false;
                }
            }
            return true;
        }

        private boolean hasTooLargeField(int number) {
            int ground = cellsWith(number);
            int left = ground;
            for (int i = 0; i < MOST_CELLS && left != 0; i++) {
                int field = spread(lowest(left), ground, MOST_CELLS);
                if (Integer.bitCount(field) > number) {
                    return true;
                }
                left &= ~field;
            }
            return false;
        }

        private boolean hasTooLittleRoom(int number) {
            int ground = cellsWith(number) | emptyCells();
            int left = cellsWith(number);
            for (int i = 0; i < MOST_CELLS && left != 0; i++) {
                // All fields with the number that lie in one room have that room.
                int room = spread(lowest(left), ground, MOST_CELLS);
                if (Integer.bitCount(room) < number) {
                    return true;
                }
                left &= ~room;
            }
            return false;
        }

        /** Tells of a sound board whether a cell is empty, and it would be sound with a number there. */
        private boolean canTake(int cell, int number) {
            if (!has(emptyCells(), cell)) {
                return false;
            }
            write(cell, number);
            // Of all fields only the one of the cell has grown, but each may have lost room.
            boolean sound = Integer.bitCount(fieldOf(cell)) <= number && !hasTooLittleRoom(number);
            for (int other = 1; other <= HIGHEST_NUMBER && sound; other++) {
                sound = other == number || !hasTooLittleRoom(other);
            }
            write(cell, 0);
            return sound;
        }

        /**
         * Tells whether the empty cells may be enough with a number in one of them. On a solved board
         * the cells with a number are a multiple of it, so what they lack to the next multiple must
         * come from the empty cells, for all numbers together.
         */
        private boolean leavesEnough(int number) {
            int lack = 0;
            for (int each = 1; each <= HIGHEST_NUMBER; each++) {
                int count = Integer.bitCount(cellsWith(each)) + (each == number ? 1 : 0);
                lack += Math.floorMod(-count, each);
            }
            return lack < Integer.bitCount(emptyCells());
        }

        /** Returns the empty cells that no field reaches. */
        private int hiddenCells() {
            int reached = 0;
            for (int number = 1; number <= HIGHEST_NUMBER; number++) {
                int left = cellsWith(number);
                for (int i = 0; i < MOST_CELLS && left != 0; i++) {
                    int field = spread(lowest(left), cellsWith(number), MOST_CELLS);
                    reached |= spread(field, emptyCells(), number - Integer.bitCount(field));
                    left &= ~field;
                }
            }
            return emptyCells() & ~reached;
        }

        /** Tells whether cells of the room of a field, with all its own, are a shape for its number. */
        private boolean isShape(int cells, int number) {
            return Integer.bitCount(cells) == number
                    && (beside(cells) & ~cells & cellsWith(number)) == 0
                    && spread(lowest(cells), cells, MOST_CELLS) == cells;
        }
    }

    /** The shapes of one field: how many they are, and which cells they have. */
    private static final class Shapes {
        private static final int MOST_SETS = 1 << MOST_CELLS;

        /** In how many shapes each cell is. */
        private final int[] countWith;
        private int count;
        /** The cells that are in all shapes; none if there is no shape. */
        private int cellsOfAll;

        private Shapes() {
            countWith = new int[MOST_CELLS];
            count = 0;
            cellsOfAll = 0;
        }

        private void forget() {
            count = 0;
            cellsOfAll = 0;
            for (int cell = 0; cell < countWith.length; cell++) {
                countWith[cell] = 0;
            }
        }

        /** Lists the shapes of the field of a cell; none if it is empty. */
        private void list(Board board, int cell) {
            forget();
            int number = board.numberIn(cell);
            if (number == 0) {
                return;
            }
            int field = board.fieldOf(cell);
            int free = board.roomOf(cell) & ~field;
            int added = 0;
            for (int i = 0; i < MOST_SETS; i++) {
                if (board.isShape(field | added, number)) {
                    note(field | added);
                }
                // Counts on in binary with the free cells as the only digits: 0 follows the last set.
                added = (added - free) & free;
                if (added == 0) {
                    return;
                }
            }
        }

        private void note(int shape) {
            cellsOfAll = count == 0 ? shape : cellsOfAll & shape;
            count++;
            for (int cell = 0; cell < countWith.length; cell++) {
                if (Board.has(shape, cell)) {
                    countWith[cell]++;
                }
            }
        }

        private int countOfThoseWith(int cell) {
            return cell >= 0 && cell < countWith.length ? countWith[cell] : 0;
        }
    }

    /** Searches for solved boards, cell by cell; it leaves out only what cannot become one. */
    private static final class Solver {
        /** The number that is tried first in each cell. */
        private final int[] firstNumbers;

        private Solver() {
            firstNumbers = new int[MOST_CELLS];
        }

        /**
         * Counts the solved boards, most at the most, that a sound board can become which is full
         * below a cell. The board is left as it was.
         */
        private static int countSolutions(Board board, int from, int most) {
            int cell = from;
            while (cell < board.cellCount() && board.numberIn(cell) != 0) {
                cell++;
            }
            if (cell >= board.cellCount()) {
                return 1;
            }
            int found = 0;
            for (int number = 1; number <= HIGHEST_NUMBER && found < most; number++) {
                if (board.leavesEnough(number) && board.canTake(cell, number)) {
                    board.write(cell, number);
                    found += countSolutions(board, cell + 1, most - found);
                    board.write(cell, 0);
                }
            }
            return found;
        }

        /** Makes an empty board the first solved one that is found, with a draw for each cell. */
        private void solveByDraws(Board board, Draws draws) {
            for (int cell = 0; cell < board.cellCount() && cell < firstNumbers.length; cell++) {
                firstNumbers[cell] = draws.nextBelow(HIGHEST_NUMBER) + 1;
            }
            solveFrom(board, 0, firstNumbers);
        }

        /**
         * Solves a sound board that is full below a cell and empty from there on. Tells whether it
         * could; if not, the board is left as it was.
         */
        private static boolean solveFrom(Board board, int cell, int[] firstNumbers) {
            if (cell < 0 || cell >= board.cellCount() || cell >= firstNumbers.length) {
                return true;
            }
            int number = firstNumbers[cell];
            for (int tries = 0; tries < HIGHEST_NUMBER; tries++) {
                if (board.leavesEnough(number) && board.canTake(cell, number)) {
                    board.write(cell, number);
                    if (solveFrom(board, cell + 1, firstNumbers)) {
                        return true;
                    }
                    board.write(cell, 0);
                }
                number = number == HIGHEST_NUMBER ? 1 : number + 1;
            }
            return false;
        }
    }

    /** The draws that follow from a seed. */
    private static final class Draws {
        private long state;

        private Draws(int seed) {
            state = seed;
        }

        /** Returns the next draw modulo a count. */
        private int nextBelow(int count) {
            state = (state * 1103515245L + 12345L) % 2147483648L;
            return count > 0 ? (int) (state / 65536L % count) : 0;
        }
    }
}
