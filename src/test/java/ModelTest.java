import java.util.Random;

/** Runs of 512 calls, drawn from a fixed seed, on the class and on the Model: all answers are the same. */
public final class ModelTest {
    private static final int RUNS = 400;
    /** What calls beyond these answer is free. */
    private static final int CALLS = 512;
    /** A whole table of four rows, with the size ahead of it and the prime behind. */
    private static final int MOST_AT_ONCE = 22;

    private final Random random;
    private final LiftedSystems x = new LiftedSystems();
    private final Model m = new Model();
    private final String name;
    private int asked = 0;

    private ModelTest(int run) {
        random = new Random(run);
        name = "run " + run + ": ";
    }

    public static void main(String[] args) {
        for (int run = 0; run < RUNS; run++) {
            ModelTest test = new ModelTest(run);
            while (test.asked + MOST_AT_ONCE <= CALLS) {
                test.call();
            }
        }
        Check.end();
    }

    /** Mostly one there is; now and then one just out of bounds, or far out. */
    private int index() {
        int choice = random.nextInt(40);
        if (choice == 0) {
            return far();
        }
        return choice < 3 ? random.nextInt(7) - 1 : random.nextInt(m.told(0));
    }

    private int far() {
        int[] all = {Integer.MIN_VALUE, Integer.MAX_VALUE, -1, 5, 25, 100, 101, 1 << 30, -(1 << 30), 1 << 16};
        return all[random.nextInt(all.length)];
    }

    private int within(int low, int high) {
        int choice = random.nextInt(40);
        if (choice == 0) {
            return far();
        }
        if (choice == 1) {
            return random.nextBoolean() ? low - 1 : high + 1;
        }
        if (choice == 2) {
            return random.nextBoolean() ? low : high;
        }
        return low + random.nextInt(high - low + 1);
    }

    /** Small numbers are likelier, so that tables often have less than full rank. */
    private int number() {
        return random.nextInt(3) > 0 ? random.nextInt(4) - 1 : within(-9, 9);
    }

    private int writtenValue(int j, int k) {
        int digit = m.digit(j, k);
        return digit >= 0 && random.nextInt(8) > 0 ? digit : within(0, 96);
    }

    private void due(String call, long got, long want) {
        asked++;
        Check.due(name + call, got, want);
    }

    private void call() {
        if (random.nextInt(30) == 0) {
            wholeTable();
        } else if (random.nextInt(3) == 0) {
            deed();
        } else if (random.nextInt(6) == 0) {
            bookOrImage();
        } else {
            question();
        }
    }

    /** Tables of one kind, which put() alone comes to seldom: the greatest numbers, many zeros, rows like others. */
    private void wholeTable() {
        int n = 1 + random.nextInt(4);
        int kind = random.nextInt(4);
        int[][] rows = new int[n][n];
        due("size(" + n + ")", x.size(n), m.size(n));
        for (int i = 0; i < n; i++) {
            int times = random.nextInt(3) - 1;
            int like = i > 0 ? random.nextInt(i) : 0;
            for (int j = 0; j < n; j++) {
                int v = kind == 3 && i > 0 && i % 2 == 0 ? times * rows[like][j] : numberOfKind(kind);
                rows[i][j] = v;
                due("put(" + i + ", " + j + ", " + v + ")", x.put(i, j, v), m.put(i, j, v));
            }
            int b = kind == 0 ? 99 - 198 * random.nextInt(2) : random.nextInt(199) - 99;
            due("side(" + i + ", " + b + ")", x.side(i, b), m.side(i, b));
        }
        int k = random.nextInt(25);
        due("prime(" + k + ")", x.prime(k), m.prime(k));
    }

    private int numberOfKind(int kind) {
        switch (kind) {
            case 0: return 9 - random.nextInt(2) - 17 * random.nextInt(2);
            case 1: return random.nextInt(3) == 0 ? random.nextInt(19) - 9 : 0;
            default: return random.nextInt(19) - 9;
        }
    }

    private void question() {
        int i = index();
        int j = index();
        int what = within(0, 1);
        switch (random.nextInt(12)) {
            case 0: case 1: case 2: {
                int of = within(0, 17);
                due("told(" + of + ")", x.told(of), m.told(of));
                break;
            }
            case 3: {
                int column = random.nextInt(4) == 0 ? m.told(0) : j;
                due("at(" + i + ", " + column + ")", x.at(i, column), m.at(i, column));
                break;
            }
            case 4: due("cleared(" + i + ", " + j + ", " + what + ")", x.cleared(i, j, what), m.cleared(i, j, what)); break;
            case 5: due("solution(" + j + ", " + what + ")", x.solution(j, what), m.solution(j, what)); break;
            case 6: due("nothing(" + j + ")", x.nothing(j), m.nothing(j)); break;
            case 7: due("back(" + i + ", " + j + ")", x.back(i, j), m.back(i, j)); break;
            case 8: {
                int k = within(0, 99);
                due("digit(" + j + ", " + k + ")", x.digit(j, k), m.digit(j, k));
                break;
            }
            case 9: {
                int k = within(0, 100);
                due("rest(" + i + ", " + k + ")", x.rest(i, k), m.rest(i, k));
                break;
            }
            case 10: {
                int k = within(1, random.nextBoolean() ? 5 : (int) (60 * Math.log(2) / Math.log(m.told(1))) + 1);
                due("guess(" + j + ", " + k + ", " + what + ")", x.guess(j, k, what), m.guess(j, k, what));
                break;
            }
            default:
                due("near(" + j + ")", x.near(j), m.near(j));
                due("shortly(" + j + ")", x.shortly(j), m.shortly(j));
                due("cut(" + j + ")", x.cut(j), m.cut(j));
        }
    }

    private void deed() {
        int i = index();
        int j = index();
        switch (random.nextInt(14)) {
            case 0: {
                int n = random.nextInt(3) == 0 ? within(1, 4) : 2 + random.nextInt(3);
                if (random.nextInt(4) == 0) {
                    due("size(" + n + ")", x.size(n), m.size(n));
                }
                break;
            }
            case 1: case 2: case 3: case 4: case 5: {
                int v = number();
                due("put(" + i + ", " + j + ", " + v + ")", x.put(i, j, v), m.put(i, j, v));
                break;
            }
            case 6: case 7: {
                int v = random.nextBoolean() ? number() : within(-99, 99);
                due("side(" + i + ", " + v + ")", x.side(i, v), m.side(i, v));
                break;
            }
            case 8: due("swap(" + i + ", " + j + ")", x.swap(i, j), m.swap(i, j)); break;
            case 9: {
                int t = within(-3, 3);
                due("mix(" + i + ", " + j + ", " + t + ")", x.mix(i, j, t), m.mix(i, j, t));
                break;
            }
            case 10: due("turn()", x.turn(), m.turn()); break;
            case 11: {
                int k = random.nextBoolean() ? within(0, 24) : within(0, 4);
                due("prime(" + k + ")", x.prime(k), m.prime(k));
                break;
            }
            case 12: {
                int n = within(1, 12);
                if (random.nextInt(3) == 0) {
                    due("drift(" + n + ")", x.drift(n), m.drift(n));
                }
                break;
            }
            default: {
                int n = random.nextBoolean() ? within(1, 4) : within(1, 16);
                due("undo(" + n + ")", x.undo(n), m.undo(n));
            }
        }
    }

    private void bookOrImage() {
        switch (random.nextInt(8)) {
            case 0: case 1: case 2: {
                int j = index();
                int k = within(0, random.nextBoolean() ? 3 : 99);
                int v = writtenValue(j, k);
                due("write(" + j + ", " + k + ", " + v + ")", x.write(j, k, v), m.write(j, k, v));
                break;
            }
            case 3: due("told(16)", x.told(16), m.told(16)); break;
            case 4: {
                if (random.nextInt(3) == 0) {
                    due("tear()", x.tear(), m.tear());
                }
                break;
            }
            case 5: {
                int v = random.nextInt(4) == 0 ? far() : random.nextInt();
                due("seed(" + v + ")", x.seed(v), m.seed(v));
                break;
            }
            case 6: {
                int i = within(0, 1);
                due("keep(" + i + ")", x.keep(i), m.keep(i));
                break;
            }
            default: {
                int i = within(0, 1);
                due("goBack(" + i + ")", x.goBack(i), m.goBack(i));
            }
        }
    }
}
