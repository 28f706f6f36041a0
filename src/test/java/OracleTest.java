import java.util.Random;

/** Long runs of calls, each answer compared with that of PlainFiller. */
final class OracleTest {
    private static final Check CHECK = new Check();
    private static final int[] ODD = {-1, 0, 10, 12, Integer.MIN_VALUE, Integer.MAX_VALUE, -9, 13};

    private final Random random;
    private final FieldFiller filler = new FieldFiller();
    private final PlainFiller plain = new PlainFiller();
    private final StringBuilder calls = new StringBuilder();

    private OracleTest(long seed) {
        random = new Random(seed);
    }

    public static void main(String[] args) {
        for (int seed = 0; seed < 300; seed++) {
            new OracleTest(seed).randomCalls(seed);
        }
        for (int seed = 0; seed < 40; seed++) {
            new OracleTest(seed).playMadeBoards();
        }
        for (int[] sides : new int[][] {{2, 2}, {2, 3}, {3, 2}}) {
            allSmallBoards(sides[0], sides[1]);
        }
        CHECK.end();
    }

    /** One call for lay and 500 more: an object is used for at most 512. */
    private void randomCalls(int seed) {
        if (seed % 3 != 0) {
            lay(2 + random.nextInt(3), 2 + random.nextInt(3));
        }
        for (int i = 0; i < 500; i++) {
            randomCall();
        }
    }

    private void randomCall() {
        switch (random.nextInt(40)) {
            case 0:
                if (random.nextInt(4) == 0) {
                    lay(1 + random.nextInt(4), random.nextInt(8) == 0 ? odd() : 2 + random.nextInt(3));
                }
                break;
            case 1:
                if (random.nextInt(3) == 0) {
                    make(random.nextInt(10) == 0 ? odd() : random.nextInt() & Integer.MAX_VALUE);
                }
                break;
            case 2:
            case 3:
            case 4:
                clue(cell(), random.nextInt(3) == 0 ? 0 : number());
                break;
            case 5:
                solutions(random.nextInt(8) == 0 ? odd() : 1 + random.nextInt(5));
                break;
            case 6:
            case 7:
                undo();
                break;
            case 8:
            case 9:
            case 10:
                run(random.nextInt(10) == 0 ? odd() : random.nextInt(3));
                break;
            default:
                if (random.nextInt(3) == 0) {
                    fill(cell(), number());
                } else {
                    look(cell(), number(), cell());
                }
        }
    }

    /** Makes boards and runs the rules on them until none finds a cell. */
    private void playMadeBoards() {
        lay(2 + random.nextInt(3), 2 + random.nextInt(2));
        for (int i = 0; i < 3; i++) {
            make(random.nextInt() & Integer.MAX_VALUE);
            lookAtAll();
            for (int step = 0; step < 16; step++) {
                run(random.nextInt(3));
            }
            lookAtAll();
            solutions(5);
        }
    }

    /** Fills small boards in all sound ways of two numbers, and counts solutions among all boards. */
    private static void allSmallBoards(int rows, int columns) {
        int cells = rows * columns;
        for (int first = 0; first < cells; first++) {
            for (int second = 0; second < cells; second++) {
                for (int numbers = 0; numbers < 100; numbers++) {
                    OracleTest test = new OracleTest(0);
                    test.lay(rows, columns);
                    test.clue(first, numbers / 10);
                    test.fill(second, numbers % 10);
                    int due = Math.min(5, test.plain.solutionsOfAllBoards());
                    CHECK.same(test.calls + "solutions(5)", test.filler.solutions(5), due);
                }
            }
        }
    }

    private int odd() {
        return ODD[random.nextInt(ODD.length)];
    }

    private int cell() {
        return random.nextInt(25) == 0 ? odd() : random.nextInt(plain.area());
    }

    private int number() {
        return random.nextInt(25) == 0 ? odd() : 1 + random.nextInt(random.nextInt(3) == 0 ? 9 : 5);
    }

    private void both(String call, Check.Call got, Check.Call due) {
        CHECK.same(calls + call, Check.outcome(got), Check.outcome(due));
    }

    private void step(String call, Check.Call got, Check.Call due) {
        both(call, got, due);
        calls.append(call).append(' ');
    }

    private void lay(int rows, int columns) {
        step("lay(" + rows + ", " + columns + ")", () -> filler.lay(rows, columns), () -> plain.lay(rows, columns));
    }

    private void clue(int cell, int number) {
        step("clue(" + cell + ", " + number + ")", () -> filler.clue(cell, number), () -> plain.clue(cell, number));
    }

    private void make(int seed) {
        step("make(" + seed + ")", () -> filler.make(seed), () -> plain.make(seed));
    }

    private void fill(int cell, int number) {
        step("fill(" + cell + ", " + number + ")", () -> filler.fill(cell, number), () -> plain.fill(cell, number));
    }

    private void undo() {
        step("undo()", filler::undo, plain::undo);
    }

    private void run(int rule) {
        step("run(" + rule + ")", () -> filler.run(rule), () -> plain.run(rule));
    }

    private void solutions(int most) {
        both("solutions(" + most + ")", () -> filler.solutions(most), () -> plain.solutions(most));
    }

    private void look(int cell, int number, int other) {
        switch (random.nextInt(11)) {
            case 0:
                both("filled()", filler::filled, plain::filled);
                break;
            case 1:
                both("area()", filler::area, plain::area);
                break;
            case 2:
                both("at(" + cell + ")", () -> filler.at(cell), () -> plain.at(cell));
                break;
            case 3:
                both("isClue(" + cell + ")", () -> filler.isClue(cell), () -> plain.isClue(cell));
                break;
            case 4:
                both("size(" + cell + ")", () -> filler.size(cell), () -> plain.size(cell));
                break;
            case 5:
                both("room(" + cell + ")", () -> filler.room(cell), () -> plain.room(cell));
                break;
            case 6:
                both("isHidden(" + cell + ")", () -> filler.isHidden(cell), () -> plain.isHidden(cell));
                break;
            case 7:
                both("shapes(" + cell + ")", () -> filler.shapes(cell), () -> plain.shapes(cell));
                break;
            case 8:
                both("isSolved()", filler::isSolved, plain::isSolved);
                break;
            case 9:
                both("canBe(" + cell + ", " + number + ")",
                        () -> filler.canBe(cell, number), () -> plain.canBe(cell, number));
                break;
            default:
                both("shapesWith(" + cell + ", " + other + ")",
                        () -> filler.shapesWith(cell, other), () -> plain.shapesWith(cell, other));
        }
    }

    private void lookAtAll() {
        for (int i = 0; i < plain.area(); i++) {
            int cell = i;
            both("at(" + cell + ")", () -> filler.at(cell), () -> plain.at(cell));
            both("isClue(" + cell + ")", () -> filler.isClue(cell), () -> plain.isClue(cell));
            both("isHidden(" + cell + ")", () -> filler.isHidden(cell), () -> plain.isHidden(cell));
            both("shapes(" + cell + ")", () -> filler.shapes(cell), () -> plain.shapes(cell));
        }
        both("filled()", filler::filled, plain::filled);
        both("isSolved()", filler::isSolved, plain::isSolved);
    }
}
