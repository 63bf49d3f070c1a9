/** The edges of jobs and coin, of frost and stones, of horses, stations and watches, of spans of days and images. */
public final class WorkEdgeTest {
    private static final Due DUE = new Due();

    public static void main(String[] args) {
        justTheCoin();
        coinAtItsEnds();
        textsOfToday();
        lateByADay();
        hoursOfAWay();
        theLastHour();
        theFrostAtItsMost();
        wearCut();
        stonesOnTheirDay();
        goneAtTheEnds();
        goneByItsOwnStonesAlone();
        drinksInARow();
        placesOfStations();
        hoursOfAWatch();
        spansOfOneDay();
        expectedAtItsMost();
        fitsAsLong();
        waysOfAllNames();
        imageOfJobs();
        imageOfDays();
        imagesOverOneAnother();
        DUE.end("WorkEdgeTest");
    }

    private static void justTheCoin() {
        for (int coin = 28; coin <= 32; coin++) {
            CityCups x = Due.withTaps(1);
            Due.trust(x, "pay any;", 1, coin);
            x.job(0, 0, 30, 0);
            DUE.is(coin + " for 30", x.council(0), coin >= 30 ? 0 : 30);
            DUE.is(coin + ": it may pay all the same", x.pays(0, 0), 1);
            DUE.is(coin + ": settled", x.settle(), coin >= 30 ? 0 : 30);
            DUE.is(coin + ": left", x.count(10), coin >= 30 ? coin - 30 : coin);
        }
        for (int coin = 69; coin <= 71; coin++) {
            CityCups x = Due.withTaps(1);
            Due.trust(x, "pay any;", 1, coin);
            x.job(0, 0, 30, 0);
            x.job(0, 0, 40, 0);
            DUE.is(coin + " for 30 and 40", x.council(0), coin >= 70 ? 0 : 30);
            DUE.is(coin + ": the code", x.council(1), coin >= 70 ? 7 : 6);
        }
    }

    private static void coinAtItsEnds() {
        CityCups x = Due.withTaps(1);
        Due.trust(x, "pay any;", 1, 0);
        x.job(0, 0, 1, 0);
        DUE.is("no coin for 1", x.council(0), 1);
        Due.trust(x, "pay any;", 1, 1);
        DUE.is("1 for 1", x.council(0), 0);
        DUE.is("the code", x.council(1), 2);
        DUE.is("settled", x.settle(), 0);
        DUE.is("nothing is left", x.count(11), 0);
        x = Due.withTaps(1);
        Due.trust(x, "pay any;", 1, 99999);
        for (int i = 0; i < 11; i++) {
            x.job(0, 0, 9999, 0);
        }
        DUE.is("six of the dearest", x.settle(), 0);
        DUE.is("left", x.count(10), 99999 - 6 * 9999);
        DUE.is("four more, one by the council", x.settle(), 9999);
        DUE.is("left", x.count(10), 99999 - 10 * 9999);
        DUE.is("paid", x.count(8), 11);
        x.job(0, 0, 9, 0);
        x.job(0, 0, 1, 0);
        DUE.is("the last coins", x.settle(), 1);
        DUE.is("none left", x.count(10), 0);
    }

    private static void textsOfToday() {
        CityCups x = Due.withTaps(1);
        Due.trust(x, "pay any if day=5 and level=20;", 1, 50);
        x.job(0, 0, 50, 900);
        x.day(4);
        x.level(4, 20);
        DUE.is("the day ahead", x.pays(0, 0), 0);
        x.day(5);
        DUE.is("the day", x.pays(0, 0), 1);
        DUE.is("it pays", x.council(0), 0);
        x.level(5, 21);
        DUE.is("the water stands higher", x.pays(0, 0), 0);
        x.level(5, 20);
        x.day(6);
        DUE.is("the day behind", x.pays(0, 0), 0);
        DUE.is("the council pays", x.council(0), 50);
    }

    private static void lateByADay() {
        CityCups x = Due.withTaps(1);
        x.job(0, 0, 1, 5);
        x.job(0, 0, 1, 0);
        x.job(0, 0, 1, 999);
        DUE.is("on day 0", x.late(0), 0);
        DUE.is("promised by day 0, on day 0", x.late(1), 0);
        x.day(4);
        DUE.is("the day ahead", x.late(0), 0);
        x.day(5);
        DUE.is("the day", x.late(0), 0);
        x.day(6);
        DUE.is("the day behind", x.late(0), 1);
        DUE.is("of all", x.late(-1), 7);
        x.done(0, 5);
        DUE.is("done on the day", x.late(0), 0);
        x.done(1, 1);
        DUE.is("done the day behind", x.late(1), 1);
        x.day(999);
        DUE.is("promised by the last day, on it", x.late(2), 0);
        DUE.is("of all", x.late(-1), 1);
        x = Due.withTaps(1);
        for (int i = 0; i < 40; i++) {
            x.job(0, 0, 1, 0);
        }
        x.day(999);
        DUE.is("forty by 999 days", x.late(-1), 39960);
    }

    private static void hoursOfAWay() {
        int[][] rows = {{0, 1, 0}, {1, 1, 1}, {1, 99, 1}, {5, 5, 1}, {6, 5, 2}, {4, 5, 1}, {10, 5, 2}, {11, 5, 3},
            {22, 1, 22}, {23, 1, 23}, {24, 1, 23}, {30, 1, 23}, {30, 2, 15}, {30, 29, 2}, {30, 30, 1}, {0, 99, 0}};
        for (int[] row : rows) {
            CityCups x = new CityCups();
            x.node(-1);
            x.tap(0, row[0] <= 15 ? row[0] : 15 + 16 * (row[0] - 15), 0, true, 1);
            for (int hour = 0; hour < 24; hour++) {
                x.cold(hour, hour + 50);
            }
            DUE.is(row[0] + " steps at " + row[1], x.frost(1, 0, row[1], 0), row[2] + 50);
        }
    }

    private static void theLastHour() {
        CityCups x = new CityCups();
        x.node(-1);
        x.tap(0, 15, 0, true, 1);
        x.tap(0, 15 + 16 * 7, 0, true, 100);
        x.tap(0, 15 + 16 * 8, 0, true, 100);
        x.cold(22, 3);
        x.cold(23, 50);
        DUE.is("22 hours", x.frost(1 << 1, 0, 1, 0), 300);
        DUE.is("23 hours", x.frost(1 << 2, 0, 1, 0), 5000);
        DUE.is("22 by the way of the first", x.frost(3, 0, 1, 0), 300);
        DUE.is("over 23 is 23", x.frost(7, 240, 1, 0), 300 + 5000 + 50);
        x.cold(23, 0);
        DUE.is("no cold at the end", x.frost(6, 0, 1, 0), 0);
        DUE.is("the later one first: both come late", x.frost(6, 0, 1, 1), 2);
        DUE.is("then the other", x.frost(6, 0, 1, 2), 1);
    }

    private static void theFrostAtItsMost() {
        CityCups x = new CityCups();
        x.node(-1);
        for (int i = 0; i < 7; i++) {
            x.tap(0, 255, 0, true, 999);
        }
        for (int hour = 0; hour < 24; hour++) {
            x.cold(hour, 100);
        }
        DUE.is("seven of the highest loss", x.frost(127, 0, 1, 0), 7 * 99900);
        for (int i = 0; i < 7; i++) {
            DUE.is("by their numbers " + i, x.frost(127, 0, 1, 1 + i), i);
        }
        x.cold(1, 0);
        DUE.is("no cold in the hour of all", x.frost(127, 255 - 16, 1, 0), 0);
        DUE.is("another in the hour of going", x.frost(127, 255, 1, 0), 7 * 99900);
    }

    private static void wearCut() {
        int[][] rows = {{1, 0, 0, 0}, {1, 0, 3, 0}, {1, 0, 4, 1}, {1, 0, 359, 99}, {1, 0, 360, 100}, {1, 0, 361, 100},
            {1, 359, 0, 99}, {1, 360, 0, 100}, {99, 35639, 0, 99}, {99, 35640, 0, 100}, {99, 0, 356, 0}, {99, 0, 357, 1},
            {50, 17999, 0, 99}, {50, 17999, 1, 100}, {50, 60000, 999, 100}, {99, 60000, 999, 100}, {2, 0, 719, 99},
            {2, 0, 720, 100}};
        for (int[] row : rows) {
            CityCups x = new CityCups();
            x.node(-1);
            x.tap(0, 0, row[1], true, 0);
            x.hard(0, row[0]);
            String name = "hard " + row[0] + ", " + row[1] + " days ahead, day " + row[2];
            DUE.is(name, x.wears(0, row[2]), row[3]);
        }
        CityCups x = Due.withTaps(1);
        DUE.is("hard 50 at first: day 179", x.wears(0, 179), 0);
        DUE.is("hard 50 at first: day 180", x.wears(0, 180), 1);
        DUE.is("hard 0", x.hard(0, 0), false);
        DUE.is("hard 100", x.hard(0, 100), false);
        DUE.is("as it was", x.wears(0, 180), 1);
    }

    private static void stonesOnTheirDay() {
        CityCups x = Due.withTaps(1);
        x.hard(0, 1);
        x.day(500);
        x.done(x.job(0, 2, 1, 0), 100);
        x.done(x.job(0, 2, 1, 0), 300);
        DUE.is("the day ahead of the first", x.wears(0, 99), 27);
        DUE.is("the first", x.wears(0, 100), 0);
        DUE.is("the day ahead of the second", x.wears(0, 299), 55);
        DUE.is("the second", x.wears(0, 300), 0);
        DUE.is("later", x.wears(0, 660), 100);
        DUE.is("gone", x.gone(0), 660);
        x.done(x.job(0, 2, 1, 0), 0);
        DUE.is("on day 0", x.wears(0, 0), 0);
        x.done(x.job(0, 2, 1, 0), 500);
        DUE.is("gone", x.gone(0), 860);
    }

    private static CityCups stone(int ahead, int hard) {
        CityCups x = Due.withTaps(1);
        x.tap(0, 0, ahead, true, 0);
        x.hard(1, hard);
        x.day(999);
        return x;
    }

    private static void goneAtTheEnds() {
        DUE.is("on day 0", stone(360, 1).gone(1), 0);
        DUE.is("ahead of day 0", stone(361, 1).gone(1), 0);
        DUE.is("on day 1", stone(359, 1).gone(1), 1);
        DUE.is("on day 360", stone(0, 1).gone(1), 360);
        DUE.is("on day 999", stone(3 * 360 - 999, 3).gone(1), 999);
        DUE.is("on day 1000", stone(3 * 360 - 1000, 3).gone(1), -1);
        DUE.is("the hardest", stone(99 * 360 - 999, 99).gone(1), 999);
        DUE.is("the hardest, a day later", stone(99 * 360 - 1000, 99).gone(1), -1);
        CityCups x = stone(0, 1);
        x.done(x.job(1, 2, 1, 0), 359);
        DUE.is("done the day ahead", x.gone(1), 719);
        x = stone(0, 1);
        x.done(x.job(1, 2, 1, 0), 360);
        DUE.is("done that day: it isn't 100 then", x.gone(1), 720);
        x = stone(0, 1);
        x.done(x.job(1, 2, 1, 0), 361);
        DUE.is("done the day behind", x.gone(1), 360);
        x = stone(0, 1);
        x.done(x.job(1, 2, 1, 0), 300);
        x.done(x.job(1, 2, 1, 0), 639);
        DUE.is("done twice: day 999", x.gone(1), 999);
        x.done(x.job(1, 2, 1, 0), 640);
        DUE.is("done thrice: not till then", x.gone(1), -1);
        x = stone(500, 1);
        x.done(x.job(1, 2, 1, 0), 0);
        DUE.is("done on day 0", x.gone(1), 360);
        x = stone(500, 1);
        x.done(x.job(1, 2, 1, 0), 1);
        DUE.is("done on day 1: it was on day 0", x.gone(1), 0);
    }

    private static void goneByItsOwnStonesAlone() {
        CityCups x = stone(0, 1);
        for (int work = 0; work < 5; work++) {
            x.done(x.job(0, work, 1, 0), 50);
            x.job(1, work, 1, 0);
            if (work != 2) {
                x.done(x.job(1, work, 1, 0), 50);
            }
        }
        DUE.is("others' work, other works, what isn't done", x.gone(1), 360);
        DUE.is("its wear", x.wears(1, 90), 25);
        x.settle();
        DUE.is("what is paid isn't done", x.gone(1), 360);
        x = stone(400, 2);
        x.job(1, 2, 1, 0);
        x.done(x.job(1, 2, 1, 0), 100);
        x.job(1, 2, 1, 0);
        DUE.is("one of three is done", x.gone(1), 820);
        for (int i = 0; i < 37; i++) {
            x.done(x.job(1, 2, 1, 0), 101 + i);
        }
        DUE.is("forty are told", x.gone(1), 857);
        DUE.is("that day", x.wears(1, 857), 100);
        DUE.is("the day ahead", x.wears(1, 856), 99);
    }

    private static void drinksInARow() {
        CityCups x = new CityCups();
        x.node(-1);
        for (int i = 1; i <= 3; i++) {
            x.tap(0, 4 * i, 0, true, 0);
        }
        DUE.is("all at once", x.horse(0, 15, 15, 0, 0), 0);
        DUE.is("a step less", x.horse(0, 15, 14, 0, 0), 1);
        DUE.is("seven", x.horse(0, 15, 7, 0, 0), 2);
        DUE.is("four", x.horse(0, 15, 4, 0, 0), 3);
        DUE.is("three", x.horse(0, 15, 3, 0, 0), -1);
        DUE.is("from a tap's cell: it drinks there", x.horse(4, 12, 4, 0, 0), 1);
        DUE.is("to a tap's cell: it needn't", x.horse(0, 8, 4, 0, 0), 1);
        DUE.is("0 steps to itself", x.horse(4, 4, 0, 0, 0), 0);
        DUE.is("0 steps to another", x.horse(4, 5, 0, 0, 0), -1);
        DUE.is("30 over all", x.horse(240, 15, 30, 0, 0), 0);
        DUE.is("29 by a tap", x.horse(240, 15, 29, 0, 0), 1);
    }

    private static void placesOfStations() {
        CityCups x = new CityCups();
        x.node(-1);
        x.tap(0, 0, 0, true, 0);
        int[] cells = {255, 0, 255, 255, 0, 255};
        for (int cell : cells) {
            x.course(cell);
        }
        DUE.is("each two: 2 and 3 are none", x.stations(2, 0, 0, 0, 0), -1);
        DUE.is("each two: no first", x.stations(2, 0, 0, 0, 1), -1);
        DUE.is("each three", x.stations(3, 0, 0, 0, 0), 2);
        DUE.is("each three: the first", x.stations(3, 0, 0, 0, 1), 1);
        DUE.is("each three: the second", x.stations(3, 0, 0, 0, 2), 4);
        DUE.is("each four", x.stations(4, 0, 0, 0, 0), 2);
        DUE.is("each four: the first", x.stations(4, 0, 0, 0, 1), 1);
        DUE.is("each five", x.stations(5, 0, 0, 0, 0), 1);
        DUE.is("each five: the later", x.stations(5, 0, 0, 0, 1), 4);
        DUE.is("all six", x.stations(6, 0, 0, 0, 1), 4);
        DUE.is("each seven", x.stations(7, 0, 0, 0, 0), 0);
        DUE.is("each one, near all", x.stations(1, 30, 0, 0, 0), 6);
        DUE.is("each one, the last", x.stations(1, 30, 0, 0, 6), 5);
        DUE.is("each one, a step less near", x.stations(1, 29, 0, 0, 0), -1);
        Due.cap(x, "cap if day=3;");
        DUE.is("capped", x.stations(5, 0, 3, 0, 0), -1);
        DUE.is("capped, none is needed", x.stations(7, 0, 3, 0, 0), 0);
        DUE.is("the day behind", x.stations(5, 0, 4, 0, 0), 1);
        CityCups y = Due.withTaps(1);
        for (int i = 0; i < 20; i++) {
            y.course(i == 19 ? 0 : 255);
        }
        DUE.is("the last place alone", y.stations(20, 0, 0, 0, 1), 19);
        DUE.is("each nineteen: the first has none", y.stations(19, 0, 0, 0, 0), -1);
    }

    private static void hoursOfAWatch() {
        CityCups x = Due.withTaps(1);
        x.damage(0, 0, 0);
        x.damage(0, 0, 23);
        DUE.is("one hour: the first", x.watch(1, 0, 0), 0);
        DUE.is("one hour: how many", x.watch(1, 0, 1), 1);
        DUE.is("two hours over midnight", x.watch(2, 0, 0), 23);
        DUE.is("both", x.watch(2, 0, 1), 2);
        DUE.is("three hours: the first with both", x.watch(3, 0, 0), 22);
        DUE.is("23 hours: all but one", x.watch(23, 0, 0), 2);
        DUE.is("23 hours: how many", x.watch(23, 0, 1), 2);
        DUE.is("24 hours: from hour 0", x.watch(24, 0, 0), 0);
        DUE.is("24 hours: how many", x.watch(24, 0, 1), 2);
        x.damage(0, 0, 1);
        DUE.is("two hours: two each", x.watch(2, 0, 0), 0);
        DUE.is("three hours", x.watch(3, 0, 0), 23);
        DUE.is("all three", x.watch(3, 0, 1), 3);
        DUE.is("hour 24", x.damage(0, 0, 24), -1);
        DUE.is("hour -1", x.damage(0, 0, -1), -1);
        DUE.is("none came of it", x.watch(24, 0, 1), 3);
    }

    private static void spansOfOneDay() {
        CityCups x = Due.withTaps(1);
        x.day(999);
        int[] days = {0, 500, 999};
        for (int day : days) {
            x.burst(0, day);
            x.hurt(0, day, 1);
            x.fill(0, day, 1);
            x.night(day, 1);
        }
        int[][] rows = {{0, 0, 1}, {1, 499, 0}, {0, 499, 1}, {500, 500, 1}, {0, 500, 2}, {501, 998, 0}, {500, 998, 1},
            {999, 999, 1}, {500, 999, 2}, {0, 999, 3}, {0, 998, 2}, {1, 999, 2}};
        for (int[] row : rows) {
            String name = " from " + row[0] + " to " + row[1];
            DUE.is("bursts" + name, x.beside(row[0], row[1], 999, 0), row[2]);
            DUE.is("expected" + name, x.beside(row[0], row[1], 999, 2), row[2]);
            DUE.is("hurts" + name, x.hurts(row[0], row[1], 999, 0), row[2]);
            DUE.is("ice" + name, x.hurts(row[0], row[1], 999, 2), row[2]);
            DUE.is("filled" + name, x.filled(0, row[0], row[1], 999), row[2]);
            DUE.is("filled by 998" + name, x.filled(0, row[0], row[1], 998), 0);
            DUE.is("turned round" + name, x.filled(0, row[1], row[0], 999), row[0] == row[1] ? row[2] : -1);
        }
    }

    private static void expectedAtItsMost() {
        CityCups x = Due.withTaps(24);
        x.day(40);
        for (int i = 0; i < 40; i++) {
            x.night(i, 100);
        }
        DUE.is("forty nights at 24 taps", x.beside(0, 39, 40, 2), 40 * 24 * 100);
        for (int i = 0; i < 24; i++) {
            x.shut(i, 39, true);
        }
        DUE.is("all are shut in the last", x.beside(0, 39, 40, 2), 39 * 24 * 100);
        DUE.is("in the last", x.beside(39, 39, 40, 2), 0);
        x.shut(23, 39, false);
        DUE.is("one is open", x.beside(39, 39, 40, 2), 100);
        DUE.is("a 41st night", x.night(39, 0), -1);
        DUE.is("it isn't told", x.beside(39, 39, 40, 2), 100);
    }

    private static void fitsAsLong() {
        CityCups x = Due.withTaps(1);
        String[] donors = {"a", "ab", "abc", "abcdefghijk", "abcdefghijkl", "z", "az"};
        for (String donor : donors) {
            Due.donor(x, donor);
        }
        String[] worn = {".", "..", "a.", ".b", "...", "z", "a", "...........", "............", "abcdefghijk.",
            ".bcdefghijkl", "abcdefghijkm", "b.", "ba"};
        int[] due = {2, 2, 2, 1, 1, 1, 1, 1, 1, 1, 1, 0, 0, 0};
        for (int i = 0; i < worn.length; i++) {
            DUE.is("worn " + worn[i], Due.worn(x, 0, worn[i]), due[i]);
            DUE.is("how many fit " + worn[i], x.fits(0, -1), due[i]);
            DUE.is("behind the last of " + worn[i], x.fits(0, due[i]), -1);
        }
    }

    private static void waysOfAllNames() {
        CityCups x = Due.withTaps(3);
        Due.donor(x, "a");
        Due.donor(x, "b");
        Due.worn(x, 0, ".");
        DUE.is("several", x.remembers(0), -1);
        Due.worn(x, 1, ".");
        DUE.is("each may be either's", x.remembers(0), -1);
        DUE.is("could", x.could(0, 0) + x.could(0, 1) + x.could(1, 0) + x.could(1, 1), 4);
        Due.worn(x, 1, "b");
        DUE.is("one alone is left", x.remembers(0), 0);
        DUE.is("the other", x.remembers(1), 1);
        DUE.is("it couldn't", x.could(0, 1), 0);
        Due.worn(x, 2, ".");
        DUE.is("three names for two", x.remembers(0), -2);
        DUE.is("none could", x.could(0, 0) + x.could(1, 1) + x.could(2, 0), 0);
        Due.donor(x, "c");
        DUE.is("a third donor", x.remembers(1), 1);
        DUE.is("several again", x.remembers(2), -1);
        DUE.is("donor 3", x.could(0, 3), -1);
    }

    private static void imageOfJobs() {
        CityCups x = Due.withTaps(3);
        for (int i = 0; i < 3; i++) {
            Due.trust(x, "pay any;", 1 << i, 1000 * (i + 1));
        }
        x.image();
        x.job(0, 1, 11, 1);
        x.job(1, 2, 12, 2);
        x.done(1, 0);
        x.image();
        x.back(0);
        DUE.is("none", x.count(6), 0);
        x.job(2, 0, 13, 3);
        x.job(2, 0, 14, 4);
        x.settle();
        DUE.is("two are paid", x.count(8), 2);
        x.image();
        x.back(1);
        DUE.is("none is paid", x.count(8), 0);
        DUE.is("one is done", x.count(7), 1);
        DUE.is("of tap 0", x.pays(0, 0), 1);
        DUE.is("not of tap 2", x.pays(2, 0), 0);
        DUE.is("the first is asked", x.council(2), 1);
        DUE.is("by its trust", x.council(1), 1);
        x.back(0);
        x.job(0, 0, 5, 0);
        DUE.is("a new one isn't paid", x.council(2), 1);
        DUE.is("nor done", x.count(7), 0);
        x.back(2);
        DUE.is("none is asked", x.council(2), 0);
        DUE.is("coin as then", x.count(12), 3000 - 27);
        x.back(0);
        DUE.is("coin as at first", x.count(12), 3000);
    }

    private static void imageOfDays() {
        CityCups x = Due.withTaps(2);
        x.image();
        x.day(999);
        x.shut(0, 999, true);
        x.image();
        DUE.is("back to day 0", x.back(0), true);
        DUE.is("today", x.count(3), 0);
        DUE.is("nothing of day 999 is known", x.runs(0, 999, 999), 0);
        DUE.is("none can be told of day 1", x.shut(0, 1, true), -1);
        DUE.is("day 1 again", x.day(1), true);
        DUE.is("it can now", x.shut(1, 1, true), 1);
        DUE.is("back to day 999", x.back(1), true);
        DUE.is("shut then", x.runs(0, 999, 999), 1);
        DUE.is("not the other one", x.runs(1, 999, 999), 0);
        DUE.is("no day behind", x.day(999), false);
        DUE.is("back(-1)", x.back(-1), false);
        DUE.is("back(2)", x.back(2), false);
        DUE.is("all stays", x.count(3), 999);
    }

    private static void imagesOverOneAnother() {
        CityCups x = new CityCups();
        for (int i = 0; i < 3; i++) {
            x.node(-1);
            x.house(i);
            x.error(i + 1);
            x.cold(5, i + 1);
            x.ban(i);
            x.course(i);
            x.image();
        }
        int[] order = {2, 0, 1, 0, 2, 2, 1};
        for (int image : order) {
            DUE.is("back(" + image + ")", x.back(image), true);
            DUE.is("nodes", x.count(0), image + 1);
            DUE.is("houses", x.count(2), image + 1);
            DUE.is("course", x.count(22), image + 1);
            DUE.is("banned from", x.count(23), image);
            DUE.is("images", x.count(20), 3);
            x.node(0);
            x.house(0);
            x.error(99);
            x.ban(-1);
            x.course(0);
        }
        DUE.is("back(0)", x.back(0), true);
        x.tap(0, 5, 0, true, 10);
        DUE.is("cold as then", x.frost(1, 0, 1, 0), 10);
        x.flow(0, 0, 10);
        DUE.is("error as then", x.drips(0, 0, 0, 0), 9);
    }
}
