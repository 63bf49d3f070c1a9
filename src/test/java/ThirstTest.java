/** Promises 21 to 24 and 35: which TAPS run, who is THIRSTY, what to MEND, what a GIFT would be worth. */
public final class ThirstTest {
    private static final Due DUE = new Due();

    public static void main(String[] args) {
        running();
        coveredHouses();
        thirstyHouses();
        mending();
        mendingUnderACap();
        tooManyToMend();
        boundOfTwelve();
        gifts();
        againstAllSets();
        DUE.end("ThirstTest");
    }

    private static void running() {
        CityCups x = Due.withTaps(2);
        x.day(4);
        x.shut(0, 2, true);
        Due.cap(x, "cap if day>2;");
        DUE.is("runs", x.runs(0, 1, 4), 0);
        DUE.is("shut", x.runs(0, 2, 4), 1);
        DUE.is("shut goes ahead of capped", x.runs(0, 3, 4), 1);
        DUE.is("capped", x.runs(1, 3, 4), 2);
        DUE.is("capped, the shutting not known", x.runs(0, 3, 3), 2);
        DUE.is("tap -1", x.runs(-1, 0, 0), -1);
        DUE.is("tap 2", x.runs(2, 0, 0), -1);
        DUE.is("day -1", x.runs(0, -1, 0), -1);
        DUE.is("day 1000", x.runs(0, 1000, 0), -1);
        DUE.is("known -1", x.runs(0, 0, -1), -1);
        DUE.is("known 1000", x.runs(0, 0, 1000), -1);
        DUE.is("the last day", x.runs(0, 999, 999), 1);
    }

    private static void coveredHouses() {
        CityCups x = new CityCups();
        x.node(-1);
        x.tap(0, 16 * 5 + 5, 0, true, 0);
        x.tap(0, 16 * 5 + 9, 0, true, 0);
        x.tap(0, 16 * 5 + 9, 0, true, 0);
        x.house(16 * 5 + 7);
        x.house(16 * 6 + 9);
        x.house(0);
        x.house(255);
        DUE.is("as far to all: the least", x.covered(0, 2, 0, 0), 0);
        DUE.is("one step too far", x.covered(0, 1, 0, 0), -1);
        DUE.is("the nearest, the least", x.covered(1, 30, 0, 0), 1);
        DUE.is("ten steps", x.covered(2, 10, 0, 0), 0);
        DUE.is("nine steps", x.covered(2, 9, 0, 0), -1);
        DUE.is("the last cell", x.covered(3, 16, 0, 0), 1);
        DUE.is("not at 15", x.covered(3, 15, 0, 0), -1);
        x.shut(1, 0, true);
        DUE.is("the other one", x.covered(1, 30, 0, 0), 2);
        DUE.is("house -1", x.covered(-1, 0, 0, 0), -2);
        DUE.is("house 4", x.covered(4, 0, 0, 0), -2);
        DUE.is("steps -1", x.covered(0, -1, 0, 0), -2);
        DUE.is("steps 31", x.covered(0, 31, 0, 0), -2);
        DUE.is("steps 0", x.covered(0, 0, 0, 0), -1);
        DUE.is("day 1000", x.covered(0, 0, 1000, 0), -2);
        DUE.is("known -1", x.covered(0, 0, 0, -1), -2);
    }

    private static void thirstyHouses() {
        CityCups x = new CityCups();
        x.node(-1);
        x.tap(0, 0, 0, true, 0);
        for (int i = 0; i < 6; i++) {
            x.house(i);
        }
        DUE.is("how many", x.thirsty(2, 0, 0, -1), 3);
        DUE.is("the first", x.thirsty(2, 0, 0, 0), 3);
        DUE.is("the third", x.thirsty(2, 0, 0, 2), 5);
        DUE.is("no fourth", x.thirsty(2, 0, 0, 3), -1);
        DUE.is("k -2", x.thirsty(2, 0, 0, -2), -1);
        DUE.is("none", x.thirsty(5, 0, 0, -1), 0);
        DUE.is("at 0 steps", x.thirsty(0, 0, 0, -1), 5);
        DUE.is("steps 31", x.thirsty(31, 0, 0, -1), -1);
        DUE.is("steps -1", x.thirsty(-1, 0, 0, -1), -1);
        DUE.is("day -1", x.thirsty(0, -1, 0, -1), -1);
        DUE.is("known 1000", x.thirsty(0, 0, 1000, -1), -1);
    }

    private static void mending() {
        CityCups x = new CityCups();
        x.node(-1);
        int[] cells = {0, 4, 8, 4, 15 * 16};
        for (int cell : cells) {
            x.shut(x.tap(0, cell, 0, true, 0), 0, true);
        }
        x.tap(0, 15 * 16 + 15, 0, true, 0);
        x.house(2);
        x.house(6);
        x.house(16 * 8 + 8);
        x.house(15 * 16 + 15);
        DUE.is("one for both, the least", x.mend(2, 0, 0, 0), 2);
        DUE.is("the bound", x.mend(2, 0, 0, 1), 1);
        DUE.is("one stays", x.mend(2, 0, 0, 2), 1);
        DUE.is("nothing near", x.mend(1, 0, 0, 0), 0);
        DUE.is("no bound", x.mend(1, 0, 0, 1), 0);
        DUE.is("three stay", x.mend(1, 0, 0, 2), 3);
        x.shut(1, 0, false);
        x.shut(3, 0, false);
        DUE.is("they run", x.mend(2, 0, 0, 0), 0);
        DUE.is("one stays", x.mend(2, 0, 0, 2), 1);
        DUE.is("what -1", x.mend(2, 0, 0, -1), -1);
        DUE.is("what 3", x.mend(2, 0, 0, 3), -1);
        DUE.is("steps 31", x.mend(31, 0, 0, 0), -1);
        DUE.is("steps -1", x.mend(-1, 0, 0, 0), -1);
        DUE.is("day 1000", x.mend(2, 1000, 0, 0), -1);
        DUE.is("known -1", x.mend(2, 0, -1, 0), -1);
    }

    private static void mendingUnderACap() {
        CityCups x = new CityCups();
        x.node(-1);
        x.node(0);
        x.shut(x.tap(0, 0, 0, true, 0), 0, true);
        x.shut(x.tap(1, 3, 0, true, 0), 0, true);
        x.tap(1, 5, 0, true, 0);
        x.house(1);
        x.house(5);
        DUE.is("both help: the least", x.mend(2, 0, 0, 0), 1);
        Due.cap(x, "cap if node=0;");
        DUE.is("a capped one does not help", x.mend(2, 0, 0, 0), 2);
        Due.cap(x, "cap;");
        DUE.is("none helps", x.mend(2, 0, 0, 0), 0);
        DUE.is("both stay", x.mend(2, 0, 0, 2), 2);
        DUE.is("no bound", x.mend(2, 0, 0, 1), 0);
    }

    private static void tooManyToMend() {
        CityCups x = Due.withTaps(14);
        x.house(0);
        for (int i = 0; i < 14; i++) {
            x.shut(i, 0, true);
        }
        for (int what = 0; what < 3; what++) {
            DUE.is("14: mend " + what, x.mend(0, 0, 0, what), -1);
        }
        x.shut(0, 0, false);
        DUE.is("13", x.mend(0, 0, 0, 2), -1);
        x.shut(1, 0, false);
        DUE.is("12", x.mend(0, 0, 0, 2), 0);
        DUE.is("12, none is thirsty", x.mend(0, 0, 0, 0), 0);
    }

    private static void boundOfTwelve() {
        CityCups x = new CityCups();
        x.node(-1);
        for (int i = 0; i < 3; i++) {
            x.shut(x.tap(0, 16 * 5 * i, 0, true, 0), 0, true);
        }
        for (int i = 0; i < 12; i++) {
            x.house(0);
        }
        x.house(16 * 5);
        x.house(16 * 10);
        DUE.is("all three", x.mend(0, 0, 0, 0), 7);
        DUE.is("of the first twelve", x.mend(0, 0, 0, 1), 1);
    }

    private static void gifts() {
        CityCups x = new CityCups();
        x.node(-1);
        x.tap(0, 0, 0, true, 0);
        x.house(1);
        x.house(5);
        x.house(6);
        x.house(255);
        DUE.is("two of them", x.gift(4, 2, 0, 0), 2);
        DUE.is("one of them", x.gift(4, 1, 0, 0), 1);
        DUE.is("none that is thirsty", x.gift(1, 1, 0, 0), 0);
        DUE.is("the last cell", x.gift(255, 0, 0, 0), 1);
        DUE.is("far", x.gift(255, 30, 0, 0), 0);
        x.shut(0, 0, true);
        DUE.is("all", x.gift(255, 30, 0, 0), 4);
        DUE.is("cell 256", x.gift(256, 0, 0, 0), -1);
        DUE.is("cell -1", x.gift(-1, 0, 0, 0), -1);
        DUE.is("steps 31", x.gift(0, 31, 0, 0), -1);
        DUE.is("steps -1", x.gift(0, -1, 0, 0), -1);
        DUE.is("day 1000", x.gift(0, 0, 1000, 0), -1);
        DUE.is("known 1000", x.gift(0, 0, 0, 1000), -1);
    }

    private static int apart(int a, int b) {
        return Math.abs(a % 16 - b % 16) + Math.abs(a / 16 - b / 16);
    }

    private static void againstAllSets() {
        for (int run = 0; run < 150; run++) {
            CityCups x = new CityCups();
            x.node(-1);
            int taps = 1 + DUE.any(13);
            int houses = DUE.any(31);
            int[] tapCell = new int[taps];
            int[] houseCell = new int[houses];
            int shut = 0;
            for (int t = 0; t < taps; t++) {
                tapCell[t] = DUE.any(256);
                x.tap(0, tapCell[t], 0, true, 0);
                if (DUE.any(8) > 0) {
                    shut |= 1 << t;
                    x.shut(t, 0, true);
                }
            }
            for (int h = 0; h < houses; h++) {
                houseCell[h] = DUE.any(256);
                x.house(houseCell[h]);
            }
            int steps = DUE.any(12);
            check(x, run, tapCell, houseCell, shut, steps);
        }
    }

    private static void check(CityCups x, int run, int[] tapCell, int[] houseCell, int shut, int steps) {
        int thirsty = 0;
        int wanted = 0;
        int[] help = new int[tapCell.length];
        for (int h = 0; h < houseCell.length; h++) {
            int best = -1;
            for (int t = 0; t < tapCell.length; t++) {
                int way = apart(tapCell[t], houseCell[h]);
                if (way <= steps && (shut >> t & 1) == 0) {
                    best = best < 0 || way < apart(tapCell[best], houseCell[h]) ? t : best;
                }
            }
            DUE.is("run " + run + ": covered " + h, x.covered(h, steps, 0, 0), best);
            if (best < 0) {
                DUE.is("run " + run + ": thirsty", x.thirsty(steps, 0, 0, Integer.bitCount(thirsty)), h);
                thirsty |= 1 << h;
                for (int t = 0; t < tapCell.length; t++) {
                    if ((shut >> t & 1) != 0 && apart(tapCell[t], houseCell[h]) <= steps) {
                        help[t] |= 1 << h;
                        wanted |= 1 << h;
                    }
                }
            }
        }
        DUE.is("run " + run + ": thirsty", x.thirsty(steps, 0, 0, -1), Integer.bitCount(thirsty));
        boolean told = Integer.bitCount(shut) <= 12;
        int fewest = fewest(help, wanted, shut);
        DUE.is("run " + run + ": mend(0)", x.mend(steps, 0, 0, 0), told ? fewest : -1);
        DUE.is("run " + run + ": mend(1)", x.mend(steps, 0, 0, 1), told ? bound(help, wanted) : -1);
        DUE.is("run " + run + ": mend(2)", x.mend(steps, 0, 0, 2), told ? Integer.bitCount(thirsty & ~wanted) : -1);
    }

    private static int fewest(int[] help, int wanted, int shut) {
        int best = shut;
        for (int set = 1 << help.length; set-- > 0;) {
            int helped = 0;
            for (int t = 0; t < help.length; t++) {
                helped |= (set >> t & 1) != 0 ? help[t] : 0;
            }
            if ((set & ~shut) == 0 && helped == wanted && Integer.bitCount(set) <= Integer.bitCount(best)) {
                best = set;
            }
        }
        return best;
    }

    private static int bound(int[] help, int wanted) {
        int[] first = new int[12];
        int many = 0;
        for (int h = 0; h < 30 && many < 12; h++) {
            if ((wanted >> h & 1) != 0) {
                first[many++] = 1 << h;
            }
        }
        int best = 0;
        for (int set = 0; set < 1 << many; set++) {
            int houses = 0;
            for (int i = 0; i < many; i++) {
                houses |= (set >> i & 1) != 0 ? first[i] : 0;
            }
            boolean can = true;
            for (int bits : help) {
                can &= Integer.bitCount(bits & houses) <= 1;
            }
            best = can ? Math.max(best, Integer.bitCount(set)) : best;
        }
        return best;
    }
}
