/** Promises 19, 20, 28 to 31 and 56: JOBS, which TRUST pays what, and what is late. */
public final class PayTest {
    private static final Due DUE = new Due();

    public static void main(String[] args) {
        jobs();
        doneJobs();
        paysAndPayers();
        factsOfToday();
        councilByHand();
        councilAsksSix();
        settled();
        lateness();
        againstAllCodes();
        DUE.end("PayTest");
    }

    private static void jobs() {
        CityCups x = new CityCups();
        DUE.is("a job of no tap", x.job(0, 0, 1, 0), -1);
        x = Due.withTaps(1);
        DUE.is("tap -1", x.job(-1, 0, 1, 0), -1);
        DUE.is("tap 1", x.job(1, 0, 1, 0), -1);
        DUE.is("work -1", x.job(0, -1, 1, 0), -1);
        DUE.is("work 5", x.job(0, 5, 1, 0), -1);
        DUE.is("cost 0", x.job(0, 0, 0, 0), -1);
        DUE.is("cost 10000", x.job(0, 0, 10000, 0), -1);
        DUE.is("promised -1", x.job(0, 0, 1, -1), -1);
        DUE.is("promised 1000", x.job(0, 0, 1, 1000), -1);
        DUE.is("count(6)", x.count(6), 0);
        DUE.is("the least", x.job(0, 0, 1, 0), 0);
        DUE.is("the most", x.job(0, 4, 9999, 999), 1);
        for (int i = 2; i < 40; i++) {
            DUE.is("job " + i, x.job(0, 1, 1, 0), i);
        }
        DUE.is("the 41st", x.job(0, 1, 1, 0), -1);
        DUE.is("count(6)", x.count(6), 40);
    }

    private static void doneJobs() {
        CityCups x = Due.withTaps(1);
        DUE.is("none such", x.done(0, 0), false);
        x.job(0, 0, 1, 0);
        x.job(0, 0, 1, 0);
        DUE.is("job -1", x.done(-1, 0), false);
        DUE.is("job 2", x.done(2, 0), false);
        DUE.is("day -1", x.done(0, -1), false);
        DUE.is("day 1 on day 0", x.done(0, 1), false);
        DUE.is("count(7)", x.count(7), 0);
        DUE.is("done", x.done(0, 0), true);
        DUE.is("done again", x.done(0, 0), false);
        x.day(5);
        DUE.is("done again later", x.done(0, 5), false);
        DUE.is("the other one, earlier", x.done(1, 3), true);
        DUE.is("count(7)", x.count(7), 2);
        DUE.is("none is asked", x.council(2), 0);
    }

    private static void paysAndPayers() {
        CityCups x = Due.withTaps(3);
        Due.trust(x, "pay tap if cost<100;refuse any;", 3, 0);
        Due.trust(x, "refuse tap if cost>50;pay any;", 6, 99999);
        x.job(0, 0, 99, 0);
        x.job(1, 0, 50, 0);
        x.job(1, 0, 51, 0);
        x.job(2, 1, 100, 0);
        int[] first = {1, 1, 1, 0};
        int[] second = {0, 1, 0, 1};
        for (int job = 0; job < 4; job++) {
            DUE.is("pays(0, " + job + ")", x.pays(0, job), first[job]);
            DUE.is("pays(1, " + job + ")", x.pays(1, job), second[job]);
        }
        DUE.is("trust 2", x.pays(2, 0), -1);
        DUE.is("trust -1", x.pays(-1, 0), -1);
        DUE.is("job 4", x.pays(0, 4), -1);
        DUE.is("job -1", x.pays(0, -1), -1);
        x.done(0, 0);
        DUE.is("of a job that is done", x.pays(0, 0), 1);
        DUE.is("payers(1, 0, 50)", x.payers(1, 0, 50), 3);
        DUE.is("payers(1, 0, 51)", x.payers(1, 0, 51), 1);
        DUE.is("payers(0, 4, 1)", x.payers(0, 4, 1), 0);
        DUE.is("payers(2, 4, 9999)", x.payers(2, 4, 9999), 2);
        DUE.is("tap -1", x.payers(-1, 0, 1), -1);
        DUE.is("tap 3", x.payers(3, 0, 1), -1);
        DUE.is("work -1", x.payers(0, -1, 1), -1);
        DUE.is("work 5", x.payers(0, 5, 1), -1);
        DUE.is("cost 0", x.payers(0, 0, 0), -1);
        DUE.is("cost 10000", x.payers(0, 0, 10000), -1);
        DUE.is("no job came of it", x.count(6), 4);
    }

    private static void factsOfToday() {
        CityCups x = new CityCups();
        x.node(-1);
        x.tap(0, 0, 350, true, 0);
        Due.trust(x, "pay any if level<50;", 1, 0);
        Due.trust(x, "pay any if age=1;", 1, 0);
        Due.trust(x, "pay any if trough=0;", 1, 0);
        Due.trust(x, "pay any if day=10;", 1, 0);
        x.day(9);
        DUE.is("on day 9", x.payers(0, 0, 1), 0);
        x.level(9, 49);
        DUE.is("as known today", x.payers(0, 0, 1), 1);
        x.level(4, 80);
        DUE.is("of the latest day", x.payers(0, 0, 1), 1);
        x.day(10);
        DUE.is("on day 10", x.payers(0, 0, 1), 11);
        x.plant(0, 10, true);
        DUE.is("planted", x.payers(0, 0, 1), 15);
    }

    private static void councilByHand() {
        CityCups x = Due.withTaps(2);
        DUE.is("council(-1)", x.council(-1), -1);
        DUE.is("council(3)", x.council(3), -1);
        DUE.is("nothing to pay", x.council(0), 0);
        DUE.is("its code", x.council(1), 0);
        DUE.is("none asked", x.council(2), 0);
        x.job(0, 0, 30, 0);
        x.job(1, 0, 30, 0);
        DUE.is("without trusts", x.council(0), 60);
        DUE.is("its code", x.council(1), 0);
        Due.trust(x, "pay any;", 3, 59);
        DUE.is("one of them", x.council(0), 30);
        DUE.is("the least code", x.council(1), 1);
        Due.trust(x, "pay any;", 1, 30);
        DUE.is("both", x.council(0), 0);
        DUE.is("their code", x.council(1), 2 + 6);
        DUE.is("asked", x.council(2), 2);
        Due.trust(x, "pay any;", 3, 60);
        DUE.is("still the least code", x.council(1), 2 + 6);
    }

    private static void councilAsksSix() {
        CityCups x = Due.withTaps(1);
        Due.trust(x, "", 1, 0);
        Due.trust(x, "pay any;", 1, 99999);
        for (int i = 0; i < 8; i++) {
            x.job(0, 0, 1 + i, 0);
        }
        x.done(1, 0);
        DUE.is("six at most", x.council(2), 6);
        DUE.is("all by the second", x.council(1), 2 * (1 + 6 + 36 + 216 + 1296 + 7776));
        DUE.is("settle", x.settle(), 0);
        DUE.is("coin", x.count(11), 99999 - (1 + 3 + 4 + 5 + 6 + 7));
        DUE.is("paid", x.count(8), 6);
        DUE.is("the last one", x.council(2), 1);
        DUE.is("settle", x.settle(), 0);
        DUE.is("coin", x.count(11), 99999 - (1 + 3 + 4 + 5 + 6 + 7 + 8));
        DUE.is("none more", x.settle(), -1);
        DUE.is("paid", x.count(8), 7);
        DUE.is("done", x.count(7), 1);
    }

    private static void settled() {
        CityCups x = Due.withTaps(1);
        DUE.is("no job", x.settle(), -1);
        Due.trust(x, "pay any;", 1, 100);
        x.job(0, 0, 60, 0);
        x.job(0, 0, 70, 0);
        DUE.is("the dearer one by the trust", x.settle(), 60);
        DUE.is("coin", x.count(10), 30);
        DUE.is("both are paid", x.count(8), 2);
        x.job(0, 0, 30, 0);
        DUE.is("asked", x.council(2), 1);
        DUE.is("all the coin that is left", x.settle(), 0);
        DUE.is("coin", x.count(10), 0);
        x.job(0, 0, 1, 0);
        DUE.is("no coin", x.council(0), 1);
        x.done(3, 0);
        DUE.is("done, not paid", x.settle(), -1);
        DUE.is("paid", x.count(8), 3);
        DUE.is("a paid one is done", x.done(0, 0), true);
    }

    private static void lateness() {
        CityCups x = Due.withTaps(1);
        DUE.is("of all, none", x.late(-1), 0);
        DUE.is("none such", x.late(0), -2);
        x.job(0, 0, 1, 5);
        x.job(0, 0, 1, 8);
        x.job(0, 0, 1, 999);
        DUE.is("-2", x.late(-2), -2);
        DUE.is("3", x.late(3), -2);
        x.day(5);
        DUE.is("on the promised day", x.late(0), 0);
        x.day(10);
        DUE.is("five behind", x.late(0), 5);
        DUE.is("two behind", x.late(1), 2);
        DUE.is("not yet", x.late(2), 0);
        DUE.is("of all", x.late(-1), 7);
        x.done(0, 6);
        x.done(1, 2);
        DUE.is("done one behind", x.late(0), 1);
        DUE.is("done ahead", x.late(1), 0);
        x.settle();
        x.day(999);
        DUE.is("done stays", x.late(0), 1);
        DUE.is("of all", x.late(-1), 1);
    }

    /** All 6 to the 6th codes, plainly counted through. */
    private static void againstAllCodes() {
        for (int run = 0; run < 40; run++) {
            CityCups x = Due.withTaps(4);
            int trusts = DUE.any(6);
            int[] taps = new int[trusts];
            int[] coin = new int[trusts];
            for (int t = 0; t < trusts; t++) {
                taps[t] = 1 + DUE.any(15);
                coin[t] = DUE.any(30);
                Due.trust(x, "pay any;", taps[t], coin[t]);
            }
            int jobs = 1 + DUE.any(6);
            int[] of = new int[jobs];
            int[] cost = new int[jobs];
            for (int j = 0; j < jobs; j++) {
                of[j] = DUE.any(4);
                cost[j] = 1 + DUE.any(15);
                x.job(of[j], 0, cost[j], 0);
            }
            int[] due = leastOf(taps, coin, of, cost);
            DUE.is("run " + run + ": council(0)", x.council(0), due[0]);
            DUE.is("run " + run + ": council(1)", x.council(1), due[1]);
            x.settle();
            int code = due[1];
            for (int j = 0; j < jobs; j++) {
                if (code % 6 > 0) {
                    coin[code % 6 - 1] -= cost[j];
                }
                code /= 6;
            }
            for (int t = 0; t < trusts; t++) {
                DUE.is("run " + run + ": coin " + t, x.count(10 + t), coin[t]);
            }
        }
    }

    private static int[] leastOf(int[] taps, int[] coin, int[] of, int[] cost) {
        int codes = 1;
        for (int j = 0; j < of.length; j++) {
            codes *= 6;
        }
        int[] best = {Integer.MAX_VALUE, 0};
        for (int code = 0; code < codes; code++) {
            int[] left = coin.clone();
            int sum = 0;
            boolean can = true;
            for (int j = 0, rest = code; j < of.length; j++, rest /= 6) {
                int t = rest % 6 - 1;
                if (t < 0) {
                    sum += cost[j];
                } else if (t >= taps.length || (taps[t] >> of[j] & 1) == 0 || left[t] < cost[j]) {
                    can = false;
                } else {
                    left[t] -= cost[j];
                }
            }
            if (can && sum < best[0]) {
                best[0] = sum;
                best[1] = code;
            }
        }
        return best;
    }
}
