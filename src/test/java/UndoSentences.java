import java.util.function.ToIntFunction;

/** The terms UNDONE and IMAGES, and promises 22 and 25 to 27: undo, seed, keep, goBack. */
final class UndoSentences extends Sentences {
    private UndoSentences() {
    }

    static void test() {
        deeds();
        sixteen();
        wrapAround();
        images();
        undoCall();
        seedCall();
        keepCall();
        goBackCall();
    }

    private static LiftedSystems made() {
        LiftedSystems x = of(row(1, 2, 3), row(4, 5, 6));
        x.prime(6);
        x.seed(4711);
        x.write(1, 2, 3);
        x.keep(0);
        return x;
    }

    private static void deeds() {
        says(TERMS, "UNDONE: the latest deeds (size(), put(), side(), swap(), mix(), turn(), prime(), each time BY DRAWS: all that were not "
            + "refused, be it that they changed nothing) since the IMAGE");
        isDeed("size()", x -> x.size(4), 1);
        isDeed("size() that changes nothing in N", x -> x.size(2), 1);
        isDeed("put()", x -> x.put(1, 1, 9), 1);
        isDeed("put() that changes nothing", x -> x.put(1, 1, 5), 1);
        isDeed("side()", x -> x.side(1, 9), 1);
        isDeed("side() that changes nothing", x -> x.side(1, 6), 1);
        isDeed("swap()", x -> x.swap(0, 1), 1);
        isDeed("mix()", x -> x.mix(0, 1, 1), 1);
        isDeed("mix() that changes nothing", x -> x.mix(0, 1, 0), 1);
        isDeed("turn()", LiftedSystems::turn, 1);
        isDeed("prime()", x -> x.prime(0), 1);
        isDeed("prime() that changes nothing", x -> x.prime(6), 1);
        for (int n = 1; n <= 12; n++) {
            int times = n;
            isDeed("drift(" + n + ")", x -> x.drift(times), n);
        }
        int[] refused = {
            of(x -> x.size(5)), of(x -> x.put(2, 0, 0)), of(x -> x.put(0, 0, 10)), of(x -> x.side(2, 0)), of(x -> x.side(0, 100)),
            of(x -> x.swap(0, 0)), of(x -> x.mix(0, 0, 1)), of(x -> x.mix(0, 1, 4)), of(x -> x.mix(0, 1, 3)), of(x -> x.prime(25)),
            of(x -> x.drift(13)), of(x -> x.drift(0)), of(x -> x.undo(1)), of(x -> x.goBack(1))
        };
        for (int k = 0; k < refused.length; k++) {
            due("refused call " + k, refused[k], 0);
        }
        isNoDeed("write()", x -> x.write(0, 0, 0));
        isNoDeed("tear()", LiftedSystems::tear);
        isNoDeed("seed()", x -> x.seed(5));
        isNoDeed("told()", x -> x.told(14));
        isNoDeed("digit()", x -> x.digit(1, 99));
        isNoDeed("a refused undo()", x -> x.undo(3));
        isNoDeed("a refused goBack()", x -> x.goBack(1));
        isNoDeed("a refused keep()", x -> x.keep(2));
        due("keep() ends them", of(x -> x.put(0, 0, 3) + x.keep(1)), 0);
        due("goBack() ends them", of(x -> x.put(0, 0, 3) + x.goBack(0)), 0);
        due("undo() takes one back", of(x -> x.put(0, 0, 3) + x.put(0, 0, 4) + x.undo(1)), 1);
    }

    /** Two deeds ahead of the call stay undoable, and no other comes to them. */
    private static void isNoDeed(String name, ToIntFunction<LiftedSystems> call) {
        LiftedSystems x = made();
        x.put(0, 0, 8);
        x.put(0, 0, 9);
        call.applyAsInt(x);
        due(name + " is no deed", x.told(17), 2);
        due(name + ": undo(1)", x.undo(1), 1);
        due(name + ": at(0, 0)", x.at(0, 0), 108);
        due(name + ": undo(1)", x.undo(1), 0);
        dueRows(name, x, row(1, 2, 3), row(4, 5, 6));
    }

    /** How many deeds a call is. */
    private static int of(ToIntFunction<LiftedSystems> call) {
        LiftedSystems x = made();
        call.applyAsInt(x);
        return x.told(17);
    }

    private static void isDeed(String name, ToIntFunction<LiftedSystems> call, int deeds) {
        due(name + ": deeds", of(call), deeds);
        LiftedSystems x = made();
        call.applyAsInt(x);
        int seed = seedOf(x);
        due(name + ": too many", x.undo(deeds + 1), NOT);
        due(name + ": undone", x.undo(deeds), 0);
        dueRows(name, x, row(1, 2, 3), row(4, 5, 6));
        due(name + ": the prime", x.told(1), 17);
        due(name + ": the seed stays", seedOf(x), seed);
        due(name + ": the book stays", x.told(15), 1);
    }

    private static void sixteen() {
        says(TERMS, "(16 at most are kept)");
        for (int deeds = 14; deeds <= 19; deeds++) {
            LiftedSystems x = new LiftedSystems();
            for (int v = 1; v <= deeds; v++) {
                x.side(0, v);
            }
            int kept = Math.min(deeds, 16);
            due("of " + deeds + " deeds", x.told(17), kept);
            due("one more", x.undo(kept + 1), kept == 16 ? OUTSIDE : NOT);
            due("all", x.undo(kept), 0);
            due("as ahead of them", x.at(0, 2), 100 + deeds - kept);
            due("no more", x.undo(1), NOT);
        }
        LiftedSystems y = new LiftedSystems();
        y.drift(12);
        y.drift(2);
        int[][] rows = rowsOf(y);
        y.drift(12);
        y.drift(4);
        due("by draws", y.told(17), 16);
        due("by draws, all", y.undo(16), 0);
        dueRows("by draws", y, rows);
        says(TERMS, "N, THE TABLE, THE SIDE, THE PRIME are as ahead of them; THE SEED, THE BOOK stay.");
        LiftedSystems z = made();
        z.prime(0);
        z.size(4);
        z.side(3, 9);
        z.drift(12);
        z.write(3, 99, 1);
        int seed = seedOf(z);
        due("all at once", z.undo(15), 0);
        dueRows("N, the table, the side", z, row(1, 2, 3), row(4, 5, 6));
        due("the prime", z.told(1), 17);
        due("the seed stays", seedOf(z), seed);
        due("the book stays", z.told(15), 2);
        z.seed(99);
        z.drift(2);
        z.tear();
        z.undo(2);
        due("what was torn stays so", z.told(15), 0);
        holds("the seed stays where the draws left it", seedOf(z) != 99);
    }

    /** What is kept of deeds goes round: each undoing comes to what was so just then. */
    private static void wrapAround() {
        LiftedSystems x = new LiftedSystems();
        int[] before = new int[400];
        int depth = 0;
        int count = 0;
        int now = 0;
        for (int step = 0; step < 60; step++) {
            for (int deed = 0; deed < 1 + step % 5; deed++) {
                before[count++] = now;
                now = (now + 7) % 99;
                x.side(0, now);
                depth = Math.min(depth + 1, 16);
            }
            int undone = Math.min(depth, 1 + step % 4);
            depth -= undone;
            count -= undone;
            now = before[count];
            due("step " + step, x.undo(undone), depth);
            due("step " + step + ": what was so", x.at(0, 2), 100 + now);
        }
    }

    private static void images() {
        says(TERMS, "IMAGES 0, 1 keep N, THE TABLE, THE SIDE, THE PRIME, THE SEED.");
        for (int image = 0; image <= 1; image++) {
            LiftedSystems x = made();
            x.seed(815);
            due("keep(" + image + ")", x.keep(image), 1);
            x.size(4);
            x.prime(0);
            x.drift(12);
            x.write(0, 0, 0);
            due("goBack(" + image + ")", x.goBack(image), 1);
            dueRows("N, the table, the side", x, row(1, 2, 3), row(4, 5, 6));
            due("the prime", x.told(1), 17);
            due("the book stays", x.told(15), 2);
            due("the seed", x.seed(0), 815);
            x.tear();
            x.goBack(image);
            due("the book is not kept", x.told(15), 0);
            x.put(0, 0, 9);
            due("an image stays when what is so changes", x.goBack(image), 1);
            due("at(0, 0)", x.at(0, 0), 101);
        }
        LiftedSystems y = one(1, 1);
        y.keep(0);
        y.side(0, 2);
        y.keep(1);
        y.goBack(0);
        due("image 0", y.at(0, 1), 101);
        y.goBack(1);
        due("image 1", y.at(0, 1), 102);
        due("no image 2", y.keep(2), UNKNOWN);
        due("no image -1", y.keep(-1), UNKNOWN);
    }

    private static void undoCall() {
        says(22, "The n latest (1 .. 16) are undone: how many more can be.");
        for (int n = 1; n <= 16; n++) {
            LiftedSystems x = new LiftedSystems();
            for (int v = 1; v <= 20; v++) {
                x.side(1, v);
            }
            due("undo(" + n + ")", x.undo(n), 16 - n);
            due("told(17)", x.told(17), 16 - n);
            due("so many ahead", x.at(1, 2), 120 - n);
        }
        says(22, "OUTSIDE, NOT: not so many.");
        LiftedSystems x = new LiftedSystems();
        for (int deeds = 0; deeds <= 16; deeds++) {
            int[] beyond = {0, 17, -1, LEAST, GREATEST};
            for (int n : beyond) {
                due("undo(" + n + ") of " + deeds, x.undo(n), OUTSIDE);
            }
            if (deeds < 16) {
                due("undo of one more than " + deeds, x.undo(deeds + 1), NOT);
                due("undo(16) of " + deeds, x.undo(16), NOT);
            }
            due("refused", x.told(17), deeds);
            due("refused", x.at(0, 2), 100 + deeds);
            x.side(0, deeds + 1);
        }
    }

    private static void seedCall() {
        says(25, "THE SEED becomes v (0 .. 2147483647): what it was.");
        LiftedSystems x = new LiftedSystems();
        due("0 at first", x.seed(GREATEST), 0);
        due("the greatest", x.seed(0), GREATEST);
        due("the least", x.seed(5), 0);
        says(25, "OUTSIDE.");
        due("-1", x.seed(-1), OUTSIDE);
        due("far below", x.seed(LEAST), OUTSIDE);
        due("it stays", x.seed(5), 5);
    }

    private static void keepCall() {
        says(26, "IMAGE i becomes what is so (nothing can be undone then): 1.");
        LiftedSystems x = new LiftedSystems();
        for (int image = 0; image <= 1; image++) {
            x.side(0, 5 + image);
            x.side(1, 5);
            due("ahead of it", x.told(17), 2);
            due("keep(" + image + ")", x.keep(image), 1);
            due("told(17)", x.told(17), 0);
            due("undo(1)", x.undo(1), NOT);
            due("what is so stays", x.at(0, 2), 105 + image);
        }
        x.side(0, 50);
        due("since the image", x.told(17), 1);
        due("keep(0) again", x.keep(0), 1);
        x.goBack(1);
        due("image 1", x.at(0, 2), 106);
        x.goBack(0);
        due("image 0 anew", x.at(0, 2), 150);
        says(26, "UNKNOWN.");
        x.side(0, 7);
        int[] beyond = {-1, 2, LEAST, GREATEST};
        for (int i : beyond) {
            due("keep(" + i + ")", x.keep(i), UNKNOWN);
            due("refused", x.told(17), 1);
        }
    }

    private static void goBackCall() {
        says(27, "What is so becomes IMAGE i (nothing can be undone then): 1.");
        LiftedSystems x = new LiftedSystems();
        x.side(0, 11);
        x.keep(0);
        x.side(0, 22);
        x.keep(1);
        for (int image = 0; image <= 1; image++) {
            x.side(0, 33);
            x.side(0, 44);
            due("ahead of it", x.told(17), 2);
            due("goBack(" + image + ")", x.goBack(image), 1);
            due("it is so", x.at(0, 2), image == 0 ? 111 : 122);
            due("told(17)", x.told(17), 0);
            due("undo(1)", x.undo(1), NOT);
        }
        says(27, "UNKNOWN, NOT: it was not kept.");
        LiftedSystems y = new LiftedSystems();
        y.side(0, 9);
        int[] beyond = {-1, 2, LEAST, GREATEST};
        for (int i : beyond) {
            due("goBack(" + i + ")", y.goBack(i), UNKNOWN);
        }
        due("goBack(0)", y.goBack(0), NOT);
        due("goBack(1)", y.goBack(1), NOT);
        due("refused", y.told(17), 1);
        y.keep(1);
        due("goBack(0), image 1 alone was kept", y.goBack(0), NOT);
        due("goBack(1)", y.goBack(1), 1);
        LiftedSystems z = new LiftedSystems();
        z.keep(0);
        due("goBack(1), image 0 alone was kept", z.goBack(1), NOT);
        due("goBack(0)", z.goBack(0), 1);
    }
}
