/** Promises 25 to 27: seed, keep, goBack. */
public final class ImagesTest {
    private static final int UNKNOWN = LiftedSystems.UNKNOWN;
    private static final int OUTSIDE = LiftedSystems.OUTSIDE;
    private static final int NOT = LiftedSystems.NOT;

    public static void main(String[] args) {
        seeds();
        images();
        imagesStandApart();
        imagesEndUndoing();
        Check.end();
    }

    private static void due(String call, long got, long want) {
        Check.due(call, got, want);
    }

    private static void seeds() {
        LiftedSystems x = new LiftedSystems();
        due("seed(MAX)", x.seed(Integer.MAX_VALUE), 0);
        due("seed(-1)", x.seed(-1), OUTSIDE);
        due("seed(MIN)", x.seed(Integer.MIN_VALUE), OUTSIDE);
        due("seed(0)", x.seed(0), Integer.MAX_VALUE);
        due("seed(1)", x.seed(1), 0);
        LiftedSystems y = new LiftedSystems();
        y.seed(1);
        for (int time = 0; time < 10; time++) {
            due("the same draws", x.drift(3), y.drift(3));
            due("the same tables", x.told(2), y.told(2));
        }
    }

    private static void images() {
        LiftedSystems x = Tables.of(Tables.row(1, 2, 3), Tables.row(4, 5, 6));
        x.prime(8);
        x.seed(99);
        due("goBack(0)", x.goBack(0), NOT);
        due("keep(0)", x.keep(0), 1);
        String kept = Tables.picture(x);
        x.size(3);
        x.prime(1);
        x.drift(12);
        due("goBack(1): never kept", x.goBack(1), NOT);
        due("told(0)", x.told(0), 3);
        due("goBack(0)", x.goBack(0), 1);
        Check.holds("all is as it was kept", kept.equals(Tables.picture(x)));
        x.put(0, 0, 9);
        due("goBack(0) again", x.goBack(0), 1);
        Check.holds("all is as it was kept", kept.equals(Tables.picture(x)));
        int[] wrong = {-1, 2, Integer.MIN_VALUE, Integer.MAX_VALUE};
        for (int i : wrong) {
            due("keep(" + i + ")", x.keep(i), UNKNOWN);
            due("goBack(" + i + ")", x.goBack(i), UNKNOWN);
        }
    }

    private static void imagesStandApart() {
        LiftedSystems x = new LiftedSystems();
        x.put(0, 0, 3);
        x.seed(5);
        x.keep(0);
        x.put(0, 0, 4);
        x.seed(6);
        x.keep(1);
        x.put(0, 0, 5);
        due("goBack(0)", x.goBack(0), 1);
        due("at(0, 0)", x.at(0, 0), 103);
        due("goBack(1)", x.goBack(1), 1);
        due("at(0, 0)", x.at(0, 0), 104);
        due("the seed of image 1", x.seed(6), 6);
        x.put(0, 0, 6);
        due("keep(0) anew", x.keep(0), 1);
        x.goBack(1);
        x.goBack(0);
        due("at(0, 0)", x.at(0, 0), 106);
        due("the seed of image 0", x.seed(0), 6);
    }

    private static void imagesEndUndoing() {
        LiftedSystems x = new LiftedSystems();
        x.drift(7);
        due("keep(2)", x.keep(2), UNKNOWN);
        due("goBack(0)", x.goBack(0), NOT);
        due("refused: told(17)", x.told(17), 7);
        x.keep(0);
        due("keep: told(17)", x.told(17), 0);
        due("undo(1)", x.undo(1), NOT);
        x.drift(2);
        due("since the image: told(17)", x.told(17), 2);
        due("undo(3)", x.undo(3), NOT);
        x.goBack(0);
        due("goBack: told(17)", x.told(17), 0);
        due("undo(1)", x.undo(1), NOT);
    }
}
