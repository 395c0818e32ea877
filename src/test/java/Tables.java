/** Ready-made objects for the tests. */
final class Tables {
    private Tables() {
    }

    /** Rows of N numbers and the side behind them. */
    static LiftedSystems of(int[]... rows) {
        LiftedSystems x = new LiftedSystems();
        fill(x, rows);
        return x;
    }

    static void fill(LiftedSystems x, int[]... rows) {
        int n = rows.length;
        x.size(n);
        for (int i = 0; i < n; i++) {
            for (int j = 0; j < n; j++) {
                x.put(i, j, rows[i][j]);
            }
            x.side(i, rows[i][n]);
        }
    }

    static int[] row(int... numbers) {
        return numbers;
    }

    /** All that can be asked without an argument that is refused: two objects that answer alike are alike. */
    static String picture(LiftedSystems x) {
        StringBuilder all = new StringBuilder();
        for (int what = 0; what <= 17; what++) {
            all.append(x.told(what)).append(' ');
        }
        int n = x.told(0);
        for (int i = 0; i < n; i++) {
            for (int j = 0; j <= n; j++) {
                all.append(x.at(i, j)).append(' ');
            }
        }
        int seed = x.seed(0);
        x.seed(seed);
        return all.append(seed).toString();
    }
}
