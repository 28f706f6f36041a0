import java.util.ArrayList;
import java.util.List;
import java.util.Set;
import java.util.TreeSet;

/**
 * The document once more, word for word and slowly, with sets of cells: what FieldFiller answers is
 * compared with it. It shares no code and no short cut with FieldFiller.
 */
final class PlainFiller {
    private int rows = 3;
    private int columns = 3;
    private int[] clues = new int[9];
    private int[] now = new int[9];
    private final List<Integer> log = new ArrayList<>();

    int lay(int newRows, int newColumns) {
        if (newRows < 2 || newRows > 4 || newColumns < 2 || newColumns > 4 || newRows * newColumns > 12) {
            throw new IllegalArgumentException();
        }
        rows = newRows;
        columns = newColumns;
        clues = new int[rows * columns];
        showClues();
        return clues.length;
    }

    int clue(int cell, int number) {
        cellOrThrow(cell);
        if (number < 0 || number > 9) {
            throw new IllegalArgumentException();
        }
        int[] wanted = clues.clone();
        wanted[cell] = number;
        if (!sound(wanted)) {
            throw new IllegalStateException();
        }
        int before = clues[cell];
        clues = wanted;
        showClues();
        return before;
    }

    int make(int seed) {
        if (seed < 0) {
            throw new IllegalArgumentException();
        }
        long x = seed;
        int cells = clues.length;
        long[] d = new long[cells];
        for (int cell = 0; cell < cells; cell++) {
            x = (x * 1103515245L + 12345L) % 2147483648L;
            d[cell] = x / 65536L;
        }
        int[] solved = new int[cells];
        if (!search(solved, 0, d)) {
            throw new AssertionError("there is no solved board");
        }
        clues = solved;
        for (int i = 0; i < cells; i++) {
            x = (x * 1103515245L + 12345L) % 2147483648L;
            int cell = (int) (x / 65536L % cells);
            if (clues[cell] != 0) {
                int[] without = clues.clone();
                without[cell] = 0;
                if (count(without, 2) == 1) {
                    clues = without;
                }
            }
        }
        showClues();
        int left = 0;
        for (int number : clues) {
            left += number != 0 ? 1 : 0;
        }
        return left;
    }

    private boolean search(int[] board, int cell, long[] d) {
        if (cell == board.length) {
            return solved(board);
        }
        int number = (int) (d[cell] % 9 + 1);
        for (int tries = 0; tries < 9; tries++) {
            if (canPut(board, cell, number)) {
                board[cell] = number;
                if (search(board, cell + 1, d)) {
                    return true;
                }
                board[cell] = 0;
            }
            number = number % 9 + 1;
        }
        return false;
    }

    int fill(int cell, int number) {
        cellOrThrow(cell);
        numberOrThrow(number);
        if (!canPut(now, cell, number)) {
            throw new IllegalStateException();
        }
        now[cell] = number;
        log.add(cell);
        return field(now, cell).size();
    }

    int undo() {
        if (log.isEmpty()) {
            throw new IllegalStateException();
        }
        int cell = log.remove(log.size() - 1);
        now[cell] = 0;
        return cell;
    }

    int run(int rule) {
        if (rule < 0 || rule > 2) {
            throw new IllegalArgumentException();
        }
        for (int cell = 0; cell < now.length; cell++) {
            if (now[cell] == 0) {
                int number = rule == 0 ? oneNumber(cell) : rule == 1 ? numberByShapes(cell) : hiddenOne(cell);
                if (number != 0) {
                    now[cell] = number;
                    log.add(cell);
                    return 10 * cell + number;
                }
            }
        }
        return -1;
    }

    private int oneNumber(int cell) {
        List<Integer> can = new ArrayList<>();
        for (int number = 1; number <= 9; number++) {
            if (canPut(now, cell, number)) {
                can.add(number);
            }
        }
        return can.size() == 1 ? can.get(0) : 0;
    }

    private int numberByShapes(int cell) {
        for (int other = 0; other < now.length; other++) {
            if (now[other] == 0 || field(now, other).size() >= now[other] || !canPut(now, cell, now[other])) {
                continue;
            }
            List<Set<Integer>> shapes = shapesOf(other);
            boolean all = !shapes.isEmpty();
            for (Set<Integer> shape : shapes) {
                all &= shape.contains(cell);
            }
            if (all) {
                return now[other];
            }
        }
        return 0;
    }

    private int hiddenOne(int cell) {
        for (int other : neighbours(cell)) {
            if (now[other] == 0) {
                return 0;
            }
        }
        return hidden(cell) && canPut(now, cell, 1) ? 1 : 0;
    }

    int filled() {
        return log.size();
    }

    int area() {
        return now.length;
    }

    int at(int cell) {
        cellOrThrow(cell);
        return now[cell];
    }

    boolean isClue(int cell) {
        cellOrThrow(cell);
        return clues[cell] != 0;
    }

    int size(int cell) {
        cellOrThrow(cell);
        return now[cell] == 0 ? 0 : field(now, cell).size();
    }

    int room(int cell) {
        cellOrThrow(cell);
        return now[cell] == 0 ? 0 : roomCells(now, cell).size();
    }

    boolean canBe(int cell, int number) {
        cellOrThrow(cell);
        numberOrThrow(number);
        return canPut(now, cell, number);
    }

    boolean isHidden(int cell) {
        cellOrThrow(cell);
        return hidden(cell);
    }

    int shapes(int cell) {
        cellOrThrow(cell);
        return shapesOf(cell).size();
    }

    int shapesWith(int cell, int other) {
        cellOrThrow(cell);
        cellOrThrow(other);
        int count = 0;
        for (Set<Integer> shape : shapesOf(cell)) {
            count += shape.contains(other) ? 1 : 0;
        }
        return count;
    }

    boolean isSolved() {
        return solved(now);
    }

    int solutions(int most) {
        if (most < 1 || most > 5) {
            throw new IllegalArgumentException();
        }
        return count(now.clone(), most);
    }

    /** Counts the solutions by looking at each way to put numbers into the empty cells. */
    int solutionsOfAllBoards() {
        return countAll(now.clone(), 0);
    }

    private int countAll(int[] board, int cell) {
        if (cell == board.length) {
            return solved(board) ? 1 : 0;
        }
        if (board[cell] != 0) {
            return countAll(board, cell + 1);
        }
        int found = 0;
        // No field is larger than the board.
        for (int number = 1; number <= Math.min(9, board.length); number++) {
            board[cell] = number;
            found += countAll(board, cell + 1);
        }
        board[cell] = 0;
        return found;
    }

    private int count(int[] board, int most) {
        for (int cell = 0; cell < board.length; cell++) {
            if (board[cell] == 0) {
                int found = 0;
                for (int number = 1; number <= 9 && found < most; number++) {
                    if (canPut(board, cell, number)) {
                        board[cell] = number;
                        found += count(board, most - found);
                        board[cell] = 0;
                    }
                }
                return found;
            }
        }
        return solved(board) ? 1 : 0;
    }

    private void showClues() {
        now = clues.clone();
        log.clear();
    }

    private void cellOrThrow(int cell) {
        if (cell < 0 || cell >= now.length) {
            throw new IndexOutOfBoundsException();
        }
    }

    private static void numberOrThrow(int number) {
        if (number < 1 || number > 9) {
            throw new IllegalArgumentException();
        }
    }

    private List<Integer> neighbours(int cell) {
        List<Integer> beside = new ArrayList<>();
        for (int other = 0; other < rows * columns; other++) {
            int down = Math.abs(cell / columns - other / columns);
            int across = Math.abs(cell % columns - other % columns);
            if (down + across == 1) {
                beside.add(other);
            }
        }
        return beside;
    }

    private Set<Integer> reach(int cell, Set<Integer> over) {
        Set<Integer> reached = new TreeSet<>();
        List<Integer> open = new ArrayList<>();
        reached.add(cell);
        open.add(cell);
        while (!open.isEmpty()) {
            for (int other : neighbours(open.remove(open.size() - 1))) {
                if (over.contains(other) && reached.add(other)) {
                    open.add(other);
                }
            }
        }
        return reached;
    }

    private static Set<Integer> cellsThatHave(int[] board, int one, int another) {
        Set<Integer> cells = new TreeSet<>();
        for (int cell = 0; cell < board.length; cell++) {
            if (board[cell] == one || board[cell] == another) {
                cells.add(cell);
            }
        }
        return cells;
    }

    private Set<Integer> field(int[] board, int cell) {
        return reach(cell, cellsThatHave(board, board[cell], board[cell]));
    }

    private Set<Integer> roomCells(int[] board, int cell) {
        return reach(cell, cellsThatHave(board, board[cell], 0));
    }

    private boolean sound(int[] board) {
        for (int cell = 0; cell < board.length; cell++) {
            if (board[cell] != 0 && (field(board, cell).size() > board[cell]
                    || roomCells(board, cell).size() < board[cell])) {
                return false;
            }
        }
        return true;
    }

    private boolean solved(int[] board) {
        for (int cell = 0; cell < board.length; cell++) {
            if (board[cell] == 0 || field(board, cell).size() != board[cell]) {
                return false;
            }
        }
        return true;
    }

    private boolean canPut(int[] board, int cell, int number) {
        if (board[cell] != 0) {
            return false;
        }
        int[] with = board.clone();
        with[cell] = number;
        return sound(with);
    }

    private boolean hidden(int cell) {
        if (now[cell] != 0) {
            return false;
        }
        for (int other = 0; other < now.length; other++) {
            int lack = now[other] == 0 ? 0 : now[other] - field(now, other).size();
            if (lack > 0 && rowTo(cell, field(now, other), lack)) {
                return false;
            }
        }
        return true;
    }

    /** Tells whether a row of at most so many empty cells leads from a field to a cell. */
    private boolean rowTo(int cell, Set<Integer> field, int most) {
        if (most == 0) {
            return false;
        }
        for (int last : neighbours(cell)) {
            if (field.contains(last) || (now[last] == 0 && rowTo(last, field, most - 1))) {
                return true;
            }
        }
        return false;
    }

    private List<Set<Integer>> shapesOf(int cell) {
        List<Set<Integer>> shapes = new ArrayList<>();
        if (now[cell] != 0) {
            choose(cell, 0, new TreeSet<>(), shapes);
        }
        return shapes;
    }

    private void choose(int cell, int next, Set<Integer> chosen, List<Set<Integer>> shapes) {
        if (chosen.size() == now[cell]) {
            if (isShape(cell, chosen)) {
                shapes.add(new TreeSet<>(chosen));
            }
        } else if (next < now.length) {
            if (now[next] == 0 || now[next] == now[cell]) {
                chosen.add(next);
                choose(cell, next + 1, chosen, shapes);
                chosen.remove(next);
            }
            choose(cell, next + 1, chosen, shapes);
        }
    }

    private boolean isShape(int cell, Set<Integer> cells) {
        if (!cells.containsAll(field(now, cell)) || !reach(cell, cells).equals(cells)) {
            return false;
        }
        for (int one : cells) {
            for (int other : neighbours(one)) {
                if (!cells.contains(other) && now[other] == now[cell]) {
                    return false;
                }
            }
        }
        return true;
    }
}
