/** Boards for the tests, and all that the calls tell of one. */
final class Boards {
    /** Rows and columns of each board that can be laid. */
    static final int[][] LAYOUTS = {{2, 2}, {2, 3}, {2, 4}, {3, 2}, {3, 3}, {3, 4}, {4, 2}, {4, 3}};

    private Boards() {
    }

    /**
     * Lays a board by a picture: its rows parted by /, each clue as its digit, an empty cell as a
     * point. Then cells are filled: a cell, its number, the next cell, its number, and so on.
     */
    static FieldFiller of(String picture, int... fills) {
        FieldFiller x = new FieldFiller();
        String[] rows = picture.split("/");
        x.lay(rows.length, rows[0].length());
        String cells = picture.replace("/", "");
        for (int cell = 0; cell < cells.length(); cell++) {
            if (cells.charAt(cell) != '.') {
                x.clue(cell, cells.charAt(cell) - '0');
            }
        }
        for (int i = 0; i + 1 < fills.length; i += 2) {
            x.fill(fills[i], fills[i + 1]);
        }
        return x;
    }

    /** Returns the picture of an empty board. */
    static String emptyPicture(int rows, int columns) {
        StringBuilder picture = new StringBuilder();
        for (int row = 0; row < rows; row++) {
            picture.append(row == 0 ? "" : "/").append("....", 0, columns);
        }
        return picture.toString();
    }

    /** Returns the picture of a solved board: one field up to 9 cells, and for 12 cells one of 3 more. */
    static String solvedPicture(int rows, int columns) {
        int area = rows * columns;
        if (area == 12) {
            return rows == 3 ? "9993/9993/9993" : "999/999/999/333";
        }
        return emptyPicture(rows, columns).replace('.', (char) ('0' + area));
    }

    /** The numbers of all cells by rising numbers of the cells; a point for an empty one. */
    static String numbers(FieldFiller x) {
        StringBuilder text = new StringBuilder();
        for (int cell = 0; cell < x.area(); cell++) {
            text.append(x.at(cell) == 0 ? "." : x.at(cell));
        }
        return text.toString();
    }

    /** All that the calls tell which change nothing: at most 370 of the 512 calls of an object. */
    static String look(FieldFiller x) {
        int area = x.area();
        StringBuilder text = new StringBuilder();
        text.append(area).append(" cells, ").append(x.filled()).append(" filled");
        text.append(x.isSolved() ? ", solved, " : ", not solved, ").append(x.solutions(5)).append(" solutions");
        for (int cell = 0; cell < area; cell++) {
            text.append("; ").append(x.at(cell)).append(x.isClue(cell) ? " clue" : "");
            text.append(x.isHidden(cell) ? " hidden" : "");
            text.append(" size ").append(x.size(cell)).append(" room ").append(x.room(cell));
            text.append(" shapes ").append(x.shapes(cell)).append(" with");
            for (int other = 0; other < area; other++) {
                text.append(' ').append(x.shapesWith(cell, other));
            }
            text.append(" can be ");
            for (int number = 1; number <= 9; number++) {
                text.append(x.canBe(cell, number) ? number : "");
            }
        }
        return text.toString();
    }

    /** All that the calls tell, and what is in the log: the board is left with its clues alone. */
    static String lookAndUndo(FieldFiller x) {
        StringBuilder text = new StringBuilder(look(x)).append("; log");
        text.append(undoAll(x)).append("; clues ").append(numbers(x));
        return text.toString();
    }

    /** The cells that undo empties until it throws, each behind a space. */
    static String undoAll(FieldFiller x) {
        StringBuilder text = new StringBuilder();
        for (int i = 0; i < 13; i++) {
            Object cell = Check.outcome(x::undo);
            if (cell.equals("throws.IllegalStateException")) {
                return text.toString();
            }
            text.append(' ').append(cell);
        }
        return text.append(" and no end").toString();
    }
}
