/** Promises 25 to 27: where germs came in, which PIPES are of lead, what drips where. */
public final class WaterTest {
    private static final Due DUE = new Due();

    public static void main(String[] args) {
        germsByHand();
        germsOfAWindow();
        leadByHand();
        leadThatIsSureByAnother();
        dripsByHand();
        dripsAtTheEdges();
        againstPlainWords();
        DUE.end("WaterTest");
    }

    /** 0 - 1 - 2, 1 - 3, and 4 a source of its own; a TAP at each. */
    private static CityCups tree() {
        CityCups x = new CityCups();
        int[] parents = {-1, 0, 1, 1, -1};
        for (int i = 0; i < parents.length; i++) {
            x.node(parents[i]);
            x.tap(i, 0, 0, true, 0);
        }
        return x;
    }

    private static void germsByHand() {
        CityCups x = tree();
        DUE.is("no bottle", x.germs(0, 1, 0), 0);
        x.bottle(0, 0, false);
        DUE.is("none with germs", x.germs(0, 1, 0), 0);
        x.bottle(2, 0, true);
        DUE.is("below the source", x.germs(0, 1, 0), 6);
        x.bottle(3, 0, true);
        DUE.is("both below 1", x.germs(0, 1, 0), 2);
        x.bottle(4, 0, true);
        DUE.is("nowhere", x.germs(0, 1, 0), 0);
        x = tree();
        x.bottle(4, 0, true);
        DUE.is("the other source", x.germs(0, 1, 0), 16);
        x.bottle(4, 0, false);
        DUE.is("with and without", x.germs(0, 1, 0), 0);
        x = tree();
        x.bottle(2, 0, true);
        DUE.is("all the way up", x.germs(0, 1, 0), 7);
        x.bottle(1, 0, false);
        DUE.is("at 2 alone", x.germs(0, 1, 0), 4);
    }

    private static void germsOfAWindow() {
        CityCups x = tree();
        x.day(100);
        x.bottle(2, 40, true);
        x.bottle(1, 41, false);
        DUE.is("the day itself", x.germs(40, 1, 100), 7);
        DUE.is("the day ahead", x.germs(39, 60, 100), 0);
        DUE.is("both", x.germs(41, 2, 100), 4);
        DUE.is("the second alone", x.germs(41, 1, 100), 0);
        DUE.is("the last of 60", x.germs(99, 60, 100), 4);
        DUE.is("out of 60", x.germs(100, 60, 100), 0);
        DUE.is("not known", x.germs(40, 1, 99), 0);
        DUE.is("window 0", x.germs(40, 0, 100), -1);
        DUE.is("window 61", x.germs(40, 61, 100), -1);
        DUE.is("day -1", x.germs(-1, 1, 100), -1);
        DUE.is("day 1000", x.germs(1000, 1, 100), -1);
        DUE.is("known -1", x.germs(40, 1, -1), -1);
        DUE.is("known 1000", x.germs(40, 1, 1000), -1);
        DUE.is("day 0 with a long window", x.germs(0, 60, 100), 0);
    }

    private static void leadByHand() {
        CityCups x = tree();
        DUE.is("open", x.lead(2, 0), 2);
        DUE.is("a source", x.lead(0, 0), -1);
        DUE.is("another source", x.lead(4, 0), -1);
        DUE.is("node 5", x.lead(5, 0), -1);
        DUE.is("node -1", x.lead(-1, 0), -1);
        DUE.is("known -1", x.lead(1, -1), -1);
        DUE.is("known 1000", x.lead(1, 1000), -1);
        x.test(4, 0, true);
        DUE.is("no pipe leads to it", x.lead(1, 0), 2);
        x.test(1, 0, true);
        DUE.is("the one pipe", x.lead(1, 0), 1);
        DUE.is("below it", x.lead(2, 0), 2);
        x.day(1);
        x.test(3, 1, false);
        DUE.is("a tap below without", x.lead(1, 1), 0);
        DUE.is("its own pipe", x.lead(3, 1), 0);
        DUE.is("no pipe by the test with lead", x.lead(2, 1), 2);
        DUE.is("not known yet", x.lead(1, 0), 1);
        x = tree();
        x.day(1);
        x.test(1, 0, true);
        DUE.is("with lead, not known yet", x.lead(1, 0), 2);
        DUE.is("with lead, known", x.lead(1, 1), 1);
    }

    private static void leadThatIsSureByAnother() {
        CityCups x = tree();
        x.test(2, 0, true);
        DUE.is("one of two", x.lead(2, 0), 2);
        DUE.is("one of two", x.lead(1, 0), 2);
        x.test(3, 0, false);
        DUE.is("the other is sure not", x.lead(2, 0), 1);
        DUE.is("that one", x.lead(1, 0), 0);
        x.test(2, 0, false);
        DUE.is("both tests of one tap", x.lead(2, 0), 0);
        // A sure PIPE above doesn't clear the one below it.
        x = tree();
        x.test(1, 0, true);
        x.test(2, 0, true);
        DUE.is("sure above", x.lead(1, 0), 1);
        DUE.is("open below", x.lead(2, 0), 2);
    }

    private static void dripsByHand() {
        CityCups x = tree();
        x.day(5);
        DUE.is("not known", x.drips(1, 5, 5, 0), -1);
        x.flow(1, 3, 500);
        x.flow(2, 3, 100);
        x.flow(3, 4, 50);
        DUE.is("all known", x.drips(1, 5, 5, 0), 350);
        DUE.is("all known, most", x.drips(1, 5, 5, 1), 350);
        DUE.is("one is not known yet of day 3", x.drips(1, 3, 5, 0), 0);
        DUE.is("it may be nothing", x.drips(1, 3, 5, 1), 400);
        DUE.is("ahead of it", x.drips(1, 2, 5, 0), -1);
        DUE.is("known ahead of it", x.drips(1, 5, 4, 0), -1);
        DUE.is("a leaf", x.drips(2, 999, 999, 0), 100);
        x.error(99);
        DUE.is("least with error", x.drips(1, 5, 5, 0), 401 - 199 - 149);
        DUE.is("most with error, not below 0", x.drips(1, 5, 5, 1), 599 - 1 - 0);
        x.flow(1, 5, 5);
        DUE.is("less than flows on", x.drips(1, 5, 5, 0), 0);
        DUE.is("the most", x.drips(1, 5, 5, 1), 104 - 1 - 0);
        x.error(0);
        DUE.is("0 at least", x.drips(1, 5, 5, 1), 0);
    }

    private static void dripsAtTheEdges() {
        CityCups x = tree();
        x.flow(0, 0, 9999);
        DUE.is("unknown below: least", x.drips(0, 0, 0, 0), 0);
        DUE.is("unknown below: most", x.drips(0, 0, 0, 1), 9999);
        x.flow(2, 0, 9999);
        x.error(99);
        DUE.is("beyond 9999", x.drips(2, 0, 0, 1), 10098);
        x.flow(2, 0, 0);
        DUE.is("told last", x.drips(2, 0, 0, 0), 0);
        DUE.is("told last, most", x.drips(2, 0, 0, 1), 99);
        DUE.is("what -1", x.drips(2, 0, 0, -1), -1);
        DUE.is("what 2", x.drips(2, 0, 0, 2), -1);
        DUE.is("node 5", x.drips(5, 0, 0, 0), -1);
        DUE.is("node -1", x.drips(-1, 0, 0, 0), -1);
        DUE.is("day 1000", x.drips(2, 1000, 0, 0), -1);
        DUE.is("day -1", x.drips(2, -1, 0, 0), -1);
        DUE.is("known 1000", x.drips(2, 0, 1000, 0), -1);
        DUE.is("known -1", x.drips(2, 0, -1, 0), -1);
    }

    private static boolean below(int[] parents, int node, int other) {
        return node == other || node >= 0 && parents[node] >= 0 && below(parents, parents[node], other);
    }

    /** Trees, bottles and tests by chance, asked as the terms' words say it. */
    private static void againstPlainWords() {
        for (int run = 0; run < 60; run++) {
            CityCups x = new CityCups();
            int nodes = 1 + DUE.any(24);
            int[] parents = new int[nodes];
            for (int i = 0; i < nodes; i++) {
                parents[i] = i == 0 || DUE.any(6) == 0 ? -1 : Math.max(0, i - 1 - DUE.any(4));
                x.node(parents[i]);
                x.tap(i, 0, 0, true, 0);
            }
            int many = 1 + DUE.any(9);
            int[] of = new int[many];
            boolean[] bad = new boolean[many];
            for (int i = 0; i < many; i++) {
                of[i] = DUE.any(nodes);
                bad[i] = DUE.any(2) == 0;
                x.bottle(of[i], 0, bad[i]);
                x.test(of[i], 0, bad[i]);
            }
            DUE.is("run " + run + ": germs", x.germs(0, 1, 0), germNodes(parents, of, bad));
            for (int node = 0; node < nodes; node++) {
                DUE.is("run " + run + ": lead " + node, x.lead(node, 0), leadOf(parents, node, of, bad));
            }
        }
    }

    private static int germNodes(int[] parents, int[] of, boolean[] bad) {
        int bits = 0;
        boolean any = false;
        for (int node = 0; node < parents.length; node++) {
            boolean may = true;
            for (int i = 0; i < of.length; i++) {
                may &= below(parents, of[i], node) == bad[i];
                any |= bad[i];
            }
            bits |= may ? 1 << node : 0;
        }
        return any ? bits : 0;
    }

    private static boolean sureNot(int[] parents, int node, int[] of, boolean[] bad) {
        for (int i = 0; i < of.length; i++) {
            if (!bad[i] && below(parents, of[i], node)) {
                return true;
            }
        }
        return false;
    }

    private static int leadOf(int[] parents, int node, int[] of, boolean[] bad) {
        if (parents[node] < 0) {
            return -1;
        }
        if (sureNot(parents, node, of, bad)) {
            return 0;
        }
        for (int i = 0; i < of.length; i++) {
            int suspects = 0;
            for (int pipe = 0; pipe < parents.length; pipe++) {
                boolean leads = parents[pipe] >= 0 && below(parents, of[i], pipe);
                suspects += leads && !sureNot(parents, pipe, of, bad) ? 1 : 0;
            }
            if (bad[i] && suspects == 1 && below(parents, of[i], node)) {
                return 1;
            }
        }
        return 2;
    }
}
