import java.io.IOException;
import java.nio.file.Path;

/**
 * What the tests by sentences share: a sentence of the document is quoted, and the answers behind it are
 * those that it asks for, one step within its boundary and one step beyond.
 */
abstract class Sentences {
    static final int TERMS = 0;
    static final int P = LiftedSystems.PLUS;
    static final int NONE = LiftedSystems.NONE;
    static final int UNKNOWN = LiftedSystems.UNKNOWN;
    static final int OUTSIDE = LiftedSystems.OUTSIDE;
    static final int NOT = LiftedSystems.NOT;
    static final int FULL = LiftedSystems.FULL;
    static final int LEAST = Integer.MIN_VALUE;
    static final int GREATEST = Integer.MAX_VALUE;
    static final int[] PRIMES = {
        2, 3, 5, 7, 11, 13, 17, 19, 23, 29, 31, 37, 41, 43, 47, 53, 59, 61, 67, 71, 73, 79, 83, 89, 97
    };

    private static Document document;
    private static String sentence = "";
    private static int answers = 0;

    static void open(Path file) throws IOException {
        document = new Document(file);
    }

    static void says(int section, String quote) {
        closeSentence();
        sentence = (section == TERMS ? "Terms" : "Promise " + section) + ", '" + quote + "'";
        Check.holds("it stands in the document: " + sentence, document.says(section, quote));
        answers = 0;
    }

    private static void closeSentence() {
        Check.holds("there is a test of " + sentence, sentence.isEmpty() || answers > 0);
    }

    static void close() {
        closeSentence();
        Check.holds("each word is quoted by a test, but for " + document.unquoted(), document.unquoted().isEmpty());
    }

    static void due(String call, long got, long want) {
        answers++;
        Check.due(sentence + ": " + call, got, want);
    }

    static void holds(String what, boolean so) {
        answers++;
        Check.holds(sentence + ": " + what, so);
    }

    static LiftedSystems of(int[]... rows) {
        return Tables.of(rows);
    }

    static int[] row(int... numbers) {
        return numbers;
    }

    /** One equation: a times X 0 is b. */
    static LiftedSystems one(int a, int b) {
        return Tables.of(new int[][] {{a, b}});
    }

    /** N, THE TABLE and THE SIDE are these. */
    static void dueRows(String when, LiftedSystems x, int[]... rows) {
        due(when + ": told(0)", x.told(0), rows.length);
        for (int i = 0; i < rows.length; i++) {
            for (int j = 0; j <= rows.length; j++) {
                due(when + ": at(" + i + ", " + j + ")", x.at(i, j), rows[i][j] + 100);
            }
        }
    }

    /** The rows of an object as they are now, the side behind each. */
    static int[][] rowsOf(LiftedSystems x) {
        int n = x.told(0);
        int[][] rows = new int[n][n + 1];
        for (int i = 0; i < n; i++) {
            for (int j = 0; j <= n; j++) {
                rows[i][j] = x.at(i, j) - 100;
            }
        }
        return rows;
    }

    /** Tables of n rows and n columns by draws, many of them of less than full rank. */
    static LiftedSystems drawn(int n, int seed) {
        LiftedSystems x = new LiftedSystems();
        x.size(n);
        x.seed(seed);
        x.drift(12);
        x.drift(12);
        if (seed % 3 == 0 && n > 1) {
            for (int j = 0; j < n; j++) {
                x.put(n - 1, j, x.at(0, j) - 100);
            }
        }
        return x;
    }

    static int seedOf(LiftedSystems x) {
        int seed = x.seed(0);
        x.seed(seed);
        return seed;
    }
}
