/** Promises 46 to 49 and 52 to 55: bursts, hurts, stones, watches, bottles and cups over DAYS. */
public final class DaysTest {
    private static final Due DUE = new Due();

    public static void main(String[] args) {
        bursts();
        expected();
        hurtsAndIce();
        spans();
        stones();
        stonesRenewed();
        goneAgainstWears();
        watches();
        bottles();
        busy();
        cups();
        DUE.end("DaysTest");
    }

    private static void bursts() {
        CityCups x = new CityCups();
        x.node(-1);
        x.tap(0, 0, 0, true, 999);
        x.tap(0, 0, 0, true, 30);
        x.day(10);
        x.burst(0, 5);
        x.burst(0, 5);
        x.burst(1, 6);
        x.day(20);
        x.burst(1, 6);
        x.shut(0, 5, true);
        x.shut(0, 6, false);
        x.shut(1, 7, true);
        DUE.is("all", x.beside(0, 20, 20, 0), 4);
        DUE.is("known by 19", x.beside(0, 20, 19, 0), 3);
        DUE.is("of day 5", x.beside(5, 5, 20, 0), 2);
        DUE.is("from 6", x.beside(6, 999, 999, 0), 2);
        DUE.is("to 4", x.beside(0, 4, 20, 0), 0);
        DUE.is("loss", x.beside(0, 20, 20, 1), 2058);
        DUE.is("loss known by 10", x.beside(6, 6, 10, 1), 30);
        DUE.is("though shut", x.beside(0, 20, 20, 3), 1);
        DUE.is("not known to be shut", x.beside(0, 20, 19, 3), 0);
        x.shut(1, 6, true);
        DUE.is("both", x.beside(0, 20, 20, 3), 3);
        DUE.is("of day 6", x.beside(6, 6, 20, 3), 2);
    }

    private static void expected() {
        CityCups x = Due.withTaps(4);
        x.day(10);
        x.night(2, 30);
        x.night(4, 100);
        x.shut(1, 3, true);
        DUE.is("both nights", x.beside(0, 10, 10, 2), 4 * 30 + 3 * 100);
        DUE.is("the first", x.beside(2, 3, 10, 2), 120);
        x.day(11);
        x.night(2, 5);
        DUE.is("told last of that day", x.beside(0, 10, 11, 2), 4 * 5 + 300);
        DUE.is("as known by 10", x.beside(0, 10, 10, 2), 4 * 30 + 300);
        x.night(4, 0);
        DUE.is("none any more", x.beside(4, 4, 11, 2), 0);
        x.tap(0, 0, 0, true, 0);
        DUE.is("a tap more", x.beside(2, 2, 11, 2), 25);
        Due.cap(x, "cap;");
        DUE.is("capped isn't shut", x.beside(2, 2, 11, 2), 25);
    }

    private static void hurtsAndIce() {
        CityCups x = Due.withTaps(2);
        x.day(10);
        x.hurt(0, 3, 9999);
        x.hurt(1, 3, 1);
        x.hurt(0, 4, 0);
        x.hurt(0, 5, 7);
        x.night(3, 1);
        x.night(5, 0);
        DUE.is("all", x.hurts(0, 10, 10, 0), 4);
        DUE.is("coin", x.hurts(0, 10, 10, 1), 10007);
        DUE.is("coin of a day", x.hurts(3, 3, 10, 1), 10000);
        DUE.is("ice", x.hurts(0, 10, 10, 2), 2);
        DUE.is("nothing known", x.hurts(0, 10, 9, 0), 0);
        x.shut(1, 2, true);
        DUE.is("at one that is shut", x.hurts(0, 10, 10, 2), 1);
        x.night(5, 9);
        DUE.is("another night", x.hurts(0, 10, 10, 2), 2);
        x.night(3, 0);
        DUE.is("the night told last", x.hurts(0, 10, 10, 2), 1);
        x.night(2, 50);
        DUE.is("a night of another day", x.hurts(0, 10, 10, 2), 1);
    }

    private static void spans() {
        CityCups x = Due.withTaps(1);
        int[][] wrong = {{-1, 0, 0}, {0, -1, 0}, {1, 0, 0}, {0, 1000, 0}, {1000, 1000, 0}, {0, 0, -1}, {0, 0, 1000}};
        for (int[] w : wrong) {
            String name = "(" + w[0] + ", " + w[1] + ", " + w[2] + ", ..)";
            DUE.is("beside" + name, x.beside(w[0], w[1], w[2], 0), -1);
            DUE.is("beside 2 " + name, x.beside(w[0], w[1], w[2], 2), -1);
            DUE.is("hurts" + name, x.hurts(w[0], w[1], w[2], 0), -1);
            DUE.is("filled" + name, x.filled(0, w[0], w[1], w[2]), -1);
            DUE.is("filled of all" + name, x.filled(-1, w[0], w[1], w[2]), -1);
            DUE.is("busiest" + name, x.busiest(w[0], w[1], w[2], 0), -1);
        }
        DUE.is("beside what -1", x.beside(0, 0, 0, -1), -1);
        DUE.is("beside what 4", x.beside(0, 0, 0, 4), -1);
        DUE.is("beside at most", x.beside(0, 999, 999, 3), 0);
        DUE.is("hurts what -1", x.hurts(0, 0, 0, -1), -1);
        DUE.is("hurts what 3", x.hurts(0, 0, 0, 3), -1);
        DUE.is("hurts at most", x.hurts(0, 999, 999, 2), 0);
    }

    private static void stones() {
        CityCups x = new CityCups();
        x.node(-1);
        x.tap(0, 0, 0, true, 0);
        x.tap(0, 0, 60000, true, 0);
        x.tap(0, 0, 17500, true, 0);
        DUE.is("tap -1", x.wears(-1, 0), -1);
        DUE.is("tap 3", x.wears(3, 0), -1);
        DUE.is("day -1", x.wears(0, -1), -1);
        DUE.is("day 1000", x.wears(0, 1000), -1);
        DUE.is("new", x.wears(0, 0), 0);
        DUE.is("179 days at 50", x.wears(0, 179), 0);
        DUE.is("180 days at 50", x.wears(0, 180), 1);
        DUE.is("999 days at 50", x.wears(0, 999), 5);
        DUE.is("100 at most", x.wears(1, 999), 100);
        DUE.is("the day ahead", x.wears(2, 499), 99);
        DUE.is("that day", x.wears(2, 500), 100);
        DUE.is("gone that day", x.gone(2), 500);
        DUE.is("gone still", x.gone(1), 0);
        DUE.is("not till 999", x.gone(0), -1);
        DUE.is("gone of tap -1", x.gone(-1), -1);
        DUE.is("gone of tap 3", x.gone(3), -1);
        x.tap(0, 0, 18000 - 999, true, 0);
        x.tap(0, 0, 18000 - 1000, true, 0);
        DUE.is("on the last day", x.gone(3), 999);
        DUE.is("a day behind that", x.gone(4), -1);
        x.tap(0, 0, 360 * 99 - 10, true, 0);
        x.hard(5, 99);
        DUE.is("wears at 99", x.wears(5, 9), 99);
        DUE.is("gone at 99", x.gone(5), 10);
    }

    private static void stonesRenewed() {
        CityCups x = Due.withTaps(2);
        x.hard(0, 1);
        x.job(0, 2, 1, 0);
        x.job(0, 1, 1, 0);
        x.job(1, 2, 1, 0);
        x.job(0, 2, 1, 0);
        x.day(400);
        DUE.is("not done", x.wears(0, 180), 50);
        x.done(1, 90);
        x.done(2, 90);
        DUE.is("another work, another tap", x.wears(0, 180), 50);
        x.done(0, 100);
        DUE.is("that day", x.wears(0, 100), 0);
        DUE.is("the day ahead", x.wears(0, 99), 27);
        DUE.is("later", x.wears(0, 280), 50);
        DUE.is("gone later", x.gone(0), 460);
        x.done(3, 50);
        DUE.is("the latest counts", x.wears(0, 280), 50);
        DUE.is("between them", x.wears(0, 95), 12);
        DUE.is("gone still", x.gone(0), 460);
        x = new CityCups();
        x.node(-1);
        x.tap(0, 0, 400, true, 0);
        x.hard(0, 1);
        DUE.is("gone on day 0", x.gone(0), 0);
        x.day(1);
        x.job(0, 2, 1, 0);
        x.done(0, 1);
        DUE.is("renewed on day 1, gone ahead of that", x.gone(0), 0);
        x = new CityCups();
        x.node(-1);
        x.tap(0, 0, 400, true, 0);
        x.hard(0, 1);
        x.job(0, 2, 1, 0);
        x.done(0, 0);
        DUE.is("renewed on day 0", x.gone(0), 360);
    }

    private static CityCups stone(int ahead, int hard, int[] done) {
        CityCups x = new CityCups();
        x.node(-1);
        x.tap(0, 0, ahead, true, 0);
        x.hard(0, hard);
        x.day(999);
        for (int day : done) {
            x.done(x.job(0, 2, 1, 0), day);
        }
        return x;
    }

    private static void goneAgainstWears() {
        for (int run = 0; run < 120; run++) {
            int ahead = DUE.any(900);
            int hard = 1 + DUE.any(2);
            int[] done = new int[DUE.any(5)];
            for (int i = 0; i < done.length; i++) {
                done[i] = DUE.any(1000);
            }
            CityCups x = stone(ahead, hard, done);
            int first = -1;
            for (int day = 999; day >= 0; day--) {
                // An object is for 512 calls.
                x = day % 400 == 0 ? stone(ahead, hard, done) : x;
                first = x.wears(0, day) == 100 ? day : first;
            }
            DUE.is("run " + run + ": gone", x.gone(0), first);
        }
    }

    private static void watches() {
        CityCups x = Due.withTaps(1);
        DUE.is("no damage: first", x.watch(5, 0, 0), 0);
        DUE.is("no damage: how many", x.watch(5, 0, 1), 0);
        x.day(5);
        x.damage(0, 0, 23);
        x.damage(0, 3, 0);
        x.damage(0, 5, 10);
        x.damage(0, 5, 10);
        DUE.is("one hour", x.watch(1, 5, 0), 10);
        DUE.is("one hour: how many", x.watch(1, 5, 1), 2);
        DUE.is("two hours: the first of alike", x.watch(2, 5, 0), 9);
        DUE.is("eleven hours", x.watch(11, 5, 0), 0);
        DUE.is("eleven hours: how many", x.watch(11, 5, 1), 3);
        DUE.is("twelve hours over midnight", x.watch(12, 5, 0), 23);
        DUE.is("twelve hours: how many", x.watch(12, 5, 1), 4);
        DUE.is("24 hours", x.watch(24, 5, 0), 0);
        DUE.is("24 hours: how many", x.watch(24, 5, 1), 4);
        DUE.is("not known", x.watch(24, 4, 1), 0);
        DUE.is("hours 0", x.watch(0, 5, 0), -1);
        DUE.is("hours 25", x.watch(25, 5, 0), -1);
        DUE.is("known -1", x.watch(1, -1, 0), -1);
        DUE.is("known 1000", x.watch(1, 1000, 0), -1);
        DUE.is("what -1", x.watch(1, 5, -1), -1);
        DUE.is("what 2", x.watch(1, 5, 2), -1);
    }

    private static void bottles() {
        CityCups x = Due.withTaps(3);
        x.day(10);
        x.fill(0, 4, 9999);
        x.fill(0, 5, 1);
        x.fill(2, 5, 20);
        x.day(11);
        x.fill(2, 5, 300);
        DUE.is("of one", x.filled(0, 0, 10, 11), 10000);
        DUE.is("of one day", x.filled(0, 5, 5, 11), 1);
        DUE.is("of none", x.filled(1, 0, 999, 999), 0);
        DUE.is("of all", x.filled(-1, 5, 5, 11), 321);
        DUE.is("known by 10", x.filled(-1, 5, 5, 10), 21);
        DUE.is("tap 3", x.filled(3, 0, 0, 0), -1);
        DUE.is("tap -2", x.filled(-2, 0, 0, 0), -1);
        DUE.is("without taps", new CityCups().filled(-1, 0, 999, 999), 0);
    }

    private static void busy() {
        CityCups x = Due.withTaps(4);
        x.fill(1, 0, 5);
        x.fill(3, 0, 5);
        x.fill(2, 0, 4);
        x.fill(2, 0, 4);
        int[] due = {2, 1, 3, 0};
        for (int k = 0; k < 4; k++) {
            DUE.is("busiest " + k, x.busiest(0, 0, 0, k), due[k]);
            DUE.is("on a day with nothing " + k, x.busiest(1, 5, 5, k), k);
        }
        DUE.is("k 4", x.busiest(0, 0, 0, 4), -1);
        DUE.is("k -1", x.busiest(0, 0, 0, -1), -1);
        DUE.is("without taps", new CityCups().busiest(0, 0, 0, 0), -1);
    }

    private static void cups() {
        CityCups x = Due.withTaps(3);
        x.day(9);
        x.ban(5);
        x.cup(0, 2, true);
        x.cup(2, 6, true);
        x.cup(0, 7, false);
        DUE.is("ahead of the ban", x.banned(4, 9, -1), 0);
        DUE.is("ahead of the ban, the first", x.banned(4, 9, 0), -1);
        DUE.is("from that day on", x.banned(5, 9, -1), 1);
        DUE.is("both", x.banned(6, 9, -1), 2);
        DUE.is("the first", x.banned(6, 9, 0), 0);
        DUE.is("the second", x.banned(6, 9, 1), 2);
        DUE.is("no third", x.banned(6, 9, 2), -1);
        DUE.is("k -2", x.banned(6, 9, -2), -1);
        DUE.is("taken away", x.banned(7, 9, 0), 2);
        DUE.is("not known", x.banned(7, 8, -1), 0);
        DUE.is("the last day", x.banned(999, 999, -1), 1);
        DUE.is("day -1", x.banned(-1, 9, -1), -1);
        DUE.is("day 1000", x.banned(1000, 9, -1), -1);
        DUE.is("known -1", x.banned(7, -1, -1), -1);
        DUE.is("known 1000", x.banned(7, 1000, -1), -1);
    }
}
