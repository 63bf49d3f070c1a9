/** The edges inside the terms: the very day, the very step, the very hour, the very coin, and the ones beside them. */
public final class EdgeTest {
    private static final Due DUE = new Due();
    private static final int LEAST = Integer.MIN_VALUE;
    private static final int MOST = Integer.MAX_VALUE;

    public static void main(String[] args) {
        stepsOverRows();
        yearsOfAge();
        theOldestTap();
        todayIsTheLastDayToTell();
        shutIsKnownFromToday();
        levelIsKnownFromToday();
        germsAreKnownFromToday();
        leadIsKnownFromToday();
        flowIsKnownFromToday();
        nightsAndBurstsAreKnownFromToday();
        hurtsAndDamagesAreKnownFromToday();
        fillingsAndCupsAreKnownFromToday();
        plantingIsKnownFromToday();
        theLatestDayThenTheLastTold();
        beyondToday();
        justSoManySteps();
        germsAtTheWindowsEnds();
        errorToBothSides();
        flowsNotKnown();
        flowsAtTheirMost();
        comparedWithNumbers();
        signsAndLetters();
        lettersOfNames();
        bytesOfNumbers();
        DUE.end("EdgeTest");
    }

    private static void stepsOverRows() {
        int[][] ways = {{0, 0, 0}, {0, 1, 1}, {0, 16, 1}, {15, 16, 16}, {0, 15, 15}, {0, 240, 15}, {0, 255, 30},
            {15, 240, 30}, {17, 34, 2}, {255, 239, 1}, {255, 254, 1}, {240, 15, 30}, {128, 127, 16}};
        for (int[] way : ways) {
            CityCups x = new CityCups();
            x.node(-1);
            x.tap(0, way[1], 0, true, 0);
            x.house(way[0]);
            String name = "from " + way[0] + " to " + way[1];
            DUE.is("round " + name, x.round(1, way[0]), 2 * way[2]);
            DUE.is("covered " + name, x.covered(0, way[2], 0, 0), 0);
            if (way[2] > 0) {
                DUE.is("a step less " + name, x.covered(0, way[2] - 1, 0, 0), -1);
            }
        }
    }

    private static int ageOn(int ahead, int day) {
        for (int years = 0; years <= 200; years++) {
            CityCups x = new CityCups();
            x.node(-1);
            x.tap(0, 0, ahead, true, 0);
            Due.cap(x, "cap if age=" + years + ";");
            if (x.runs(0, day, 0) == 2) {
                return years;
            }
        }
        return -1;
    }

    private static void yearsOfAge() {
        DUE.is("new", ageOn(0, 0), 0);
        DUE.is("359 days", ageOn(0, 359), 0);
        DUE.is("360 days", ageOn(0, 360), 1);
        DUE.is("361 days", ageOn(0, 361), 1);
        DUE.is("719 days", ageOn(0, 719), 1);
        DUE.is("720 days", ageOn(0, 720), 2);
        DUE.is("a day ahead and 358", ageOn(1, 358), 0);
        DUE.is("a day ahead and 359", ageOn(1, 359), 1);
        DUE.is("359 ahead", ageOn(359, 0), 0);
        DUE.is("360 ahead", ageOn(360, 0), 1);
    }

    private static void theOldestTap() {
        DUE.is("60000 days ahead", ageOn(60000, 0), 166);
        DUE.is("60999 days", ageOn(60000, 999), 169);
        DUE.is("60839 days", ageOn(60000, 839), 168);
        DUE.is("60840 days", ageOn(60000, 840), 169);
        CityCups x = new CityCups();
        x.node(-1);
        DUE.is("60001 days ahead", x.tap(0, 0, 60001, true, 0), -1);
        DUE.is("none is there", x.count(1), 0);
        x.tap(0, 0, 60000, true, 0);
        x.hard(0, 99);
        DUE.is("its stone at 99", x.wears(0, 0), 100);
        DUE.is("gone on day 0", x.gone(0), 0);
    }

    private static void todayIsTheLastDayToTell() {
        CityCups x = Due.withTaps(1);
        x.job(0, 2, 1, 0);
        x.job(0, 2, 1, 0);
        int[] days = {1, 2, MOST, LEAST, -1, 999, 1000};
        for (int day : days) {
            DUE.is("shut on " + day, x.shut(0, day, true), -1);
            DUE.is("done on " + day, x.done(0, day), false);
        }
        x.day(998);
        DUE.is("shut on 999", x.shut(0, 999, true), -1);
        DUE.is("done on 999", x.done(0, 999), false);
        DUE.is("shut on 998", x.shut(0, 998, true), 1);
        DUE.is("done on 998", x.done(0, 998), true);
        DUE.is("day 999", x.day(999), true);
        DUE.is("shut on 999", x.shut(0, 999, true), 2);
        DUE.is("done on 999", x.done(1, 999), true);
        DUE.is("late: the first", x.late(0), 998);
        DUE.is("late: the second", x.late(1), 999);
        DUE.is("no day behind", x.day(1000), false);
        DUE.is("no day behind, ever", x.day(MOST), false);
        DUE.is("today", x.count(3), 999);
    }

    /** On TODAY 7 something is told of DAY 5: asked of DAYS 4, 5, 6 and 999, by DAYS 6, 7 and 999. */
    private static CityCups seven() {
        CityCups x = new CityCups();
        x.node(-1);
        x.node(0);
        x.tap(1, 0, 0, true, 30);
        x.tap(0, 0, 0, true, 40);
        x.day(7);
        return x;
    }

    private static void shutIsKnownFromToday() {
        CityCups x = seven();
        x.shut(0, 5, true);
        DUE.is("the day ahead", x.runs(0, 4, 7), 0);
        DUE.is("the day", x.runs(0, 5, 7), 1);
        DUE.is("by the day ahead", x.runs(0, 5, 6), 0);
        DUE.is("by its own day", x.runs(0, 5, 5), 0);
        DUE.is("by the last day", x.runs(0, 999, 999), 1);
        DUE.is("the day ahead by the last", x.runs(0, 4, 999), 0);
    }

    private static void levelIsKnownFromToday() {
        CityCups x = seven();
        Due.cap(x, "cap if level=0;");
        x.level(5, 0);
        DUE.is("the day ahead", x.runs(0, 4, 7), 0);
        DUE.is("the day", x.runs(0, 5, 7), 2);
        DUE.is("by the day ahead", x.runs(0, 5, 6), 0);
        DUE.is("by the last day", x.runs(0, 999, 999), 2);
        Due.trust(x, "pay any if level=0;", 3, 0);
        DUE.is("as known today", x.payers(0, 0, 1), 1);
    }

    private static void germsAreKnownFromToday() {
        CityCups x = seven();
        x.bottle(0, 5, true);
        DUE.is("the day ahead", x.germs(4, 60, 7), 0);
        DUE.is("the day", x.germs(5, 1, 7), 3);
        DUE.is("by the day ahead", x.germs(5, 1, 6), 0);
        DUE.is("by the last day", x.germs(64, 60, 999), 3);
        DUE.is("out of the window", x.germs(65, 60, 999), 0);
    }

    private static void leadIsKnownFromToday() {
        CityCups x = seven();
        x.test(0, 5, true);
        DUE.is("by the day ahead", x.lead(1, 6), 2);
        DUE.is("by today", x.lead(1, 7), 1);
        DUE.is("by the last day", x.lead(1, 999), 1);
        x.day(8);
        x.test(0, 0, false);
        DUE.is("without, by the day ahead", x.lead(1, 7), 1);
        DUE.is("without, by today", x.lead(1, 8), 0);
    }

    private static void flowIsKnownFromToday() {
        CityCups x = seven();
        x.flow(1, 5, 20);
        DUE.is("the day ahead", x.drips(1, 4, 7, 0), -1);
        DUE.is("the day", x.drips(1, 5, 7, 0), 20);
        DUE.is("by the day ahead", x.drips(1, 5, 6, 0), -1);
        DUE.is("by the last day", x.drips(1, 999, 999, 0), 20);
        x.flow(0, 4, 50);
        DUE.is("the one below isn't known of day 4", x.drips(0, 4, 7, 0), 0);
        DUE.is("nor at most", x.drips(0, 4, 7, 1), 50);
        DUE.is("it is of day 5", x.drips(0, 5, 7, 0), 30);
        DUE.is("at most, too", x.drips(0, 5, 7, 1), 30);
    }

    private static void nightsAndBurstsAreKnownFromToday() {
        CityCups x = seven();
        x.night(5, 10);
        x.burst(0, 5);
        x.shut(0, 5, true);
        int[][] due = {{1, 1}, {30, 30}, {10, 10}, {1, 1}};
        for (int what = 0; what < 4; what++) {
            DUE.is("the day ahead " + what, x.beside(0, 4, 7, what), 0);
            DUE.is("the day " + what, x.beside(5, 5, 7, what), due[what][0]);
            DUE.is("to the day " + what, x.beside(0, 5, 7, what), due[what][0]);
            DUE.is("from the day " + what, x.beside(5, 999, 999, what), due[what][1]);
            DUE.is("the day behind " + what, x.beside(6, 999, 999, what), 0);
            DUE.is("by the day ahead " + what, x.beside(0, 999, 6, what), 0);
        }
        x.day(8);
        x.shut(0, 5, false);
        x.night(5, 0);
        DUE.is("opened, told later: known now", x.beside(5, 5, 8, 3), 0);
        DUE.is("opened, told later: not known then", x.beside(5, 5, 7, 3), 1);
        DUE.is("another chance, told later: known now", x.beside(5, 5, 8, 2), 0);
        DUE.is("another chance, told later: not known then", x.beside(5, 5, 7, 2), 10);
        x.night(5, 100);
        DUE.is("the highest chance, both open", x.beside(5, 5, 8, 2), 200);
        x.shut(1, 6, true);
        DUE.is("shut the day behind", x.beside(5, 5, 8, 2), 200);
        x.shut(1, 4, true);
        DUE.is("shut the day ahead", x.beside(5, 5, 8, 2), 100);
    }

    private static void hurtsAndDamagesAreKnownFromToday() {
        CityCups x = seven();
        x.hurt(0, 5, 9);
        x.night(5, 1);
        x.damage(0, 5, 3);
        int[] due = {1, 9, 1};
        for (int what = 0; what < 3; what++) {
            DUE.is("the day ahead " + what, x.hurts(0, 4, 7, what), 0);
            DUE.is("the day " + what, x.hurts(5, 5, 7, what), due[what]);
            DUE.is("the day behind " + what, x.hurts(6, 999, 999, what), 0);
            DUE.is("by the day ahead " + what, x.hurts(0, 999, 6, what), 0);
        }
        DUE.is("damages by the day ahead", x.watch(24, 6, 1), 0);
        DUE.is("damages by today", x.watch(24, 7, 1), 1);
        DUE.is("the hour", x.watch(1, 7, 0), 3);
        DUE.is("a night of chance 0 is told last", x.night(5, 0), 2);
        DUE.is("no ice", x.hurts(5, 5, 7, 2), 0);
        x.night(4, 100);
        x.night(6, 100);
        DUE.is("nights beside it", x.hurts(5, 5, 7, 2), 0);
        x.night(5, 1);
        DUE.is("ice", x.hurts(5, 5, 7, 2), 1);
        x.shut(0, 6, true);
        DUE.is("shut the day behind", x.hurts(5, 5, 7, 2), 1);
        x.shut(0, 5, true);
        DUE.is("shut that day", x.hurts(5, 5, 7, 2), 0);
    }

    private static void fillingsAndCupsAreKnownFromToday() {
        CityCups x = seven();
        x.fill(1, 5, 9);
        x.cup(1, 5, true);
        x.ban(5);
        DUE.is("filled the day ahead", x.filled(1, 0, 4, 7), 0);
        DUE.is("filled the day", x.filled(1, 5, 5, 7), 9);
        DUE.is("filled the day behind", x.filled(1, 6, 999, 999), 0);
        DUE.is("filled by the day ahead", x.filled(1, 0, 999, 6), 0);
        DUE.is("busiest the day", x.busiest(5, 5, 7, 0), 1);
        DUE.is("busiest the day ahead", x.busiest(0, 4, 7, 0), 0);
        DUE.is("busiest by the day ahead", x.busiest(0, 999, 6, 0), 0);
        DUE.is("a cup the day", x.banned(5, 7, 0), 1);
        DUE.is("a cup by the day ahead", x.banned(5, 6, -1), 0);
        DUE.is("a cup on the last day", x.banned(999, 999, -1), 1);
        x.ban(6);
        DUE.is("ahead of the ban", x.banned(5, 7, -1), 0);
        DUE.is("on the ban's day", x.banned(6, 7, -1), 1);
        x.ban(4);
        DUE.is("ahead of the cup", x.banned(4, 7, -1), 0);
        x.ban(0);
        x.cup(0, 0, true);
        DUE.is("from day 0 on", x.banned(0, 7, -1), 1);
        x.ban(999);
        DUE.is("on the last day", x.banned(999, 7, -1), 2);
        DUE.is("the day ahead of the last", x.banned(998, 7, -1), 0);
        x.ban(-1);
        DUE.is("not at all", x.banned(999, 999, -1), 0);
    }

    private static void plantingIsKnownFromToday() {
        CityCups x = seven();
        Due.cap(x, "spare if trough=1;cap;");
        x.plant(0, 5, true);
        DUE.is("the day ahead", x.runs(0, 4, 7), 0);
        DUE.is("the day", x.runs(0, 5, 7), 2);
        DUE.is("by the day ahead", x.runs(0, 5, 6), 0);
        DUE.is("the other one", x.runs(1, 5, 7), 0);
        Due.cap(x, "");
        DUE.is("the horse the day ahead", x.horse(255, 0, 29, 4, 7), -1);
        x = new CityCups();
        x.node(-1);
        x.tap(0, 15, 0, true, 0);
        x.day(7);
        x.plant(0, 5, true);
        DUE.is("the horse, the day ahead", x.horse(0, 255, 15, 4, 7), 1);
        DUE.is("the horse, the day", x.horse(0, 255, 15, 5, 7), -1);
        DUE.is("the horse, by the day ahead", x.horse(0, 255, 15, 5, 6), 1);
    }

    private static void theLatestDayThenTheLastTold() {
        CityCups x = seven();
        Due.cap(x, "cap if level<50;");
        x.shut(0, 5, true);
        x.shut(0, 3, false);
        x.level(5, 10);
        x.level(3, 90);
        x.flow(1, 5, 10);
        x.flow(1, 3, 90);
        x.cup(0, 5, true);
        x.cup(0, 3, false);
        x.ban(0);
        DUE.is("shut: the latest day", x.runs(0, 7, 7), 1);
        DUE.is("shut: between", x.runs(0, 4, 7), 0);
        DUE.is("level: the latest day", x.runs(1, 7, 7), 2);
        DUE.is("level: between", x.runs(1, 4, 7), 0);
        DUE.is("flow: the latest day", x.drips(1, 7, 7, 0), 10);
        DUE.is("flow: between", x.drips(1, 4, 7, 0), 90);
        DUE.is("cup: the latest day", x.banned(7, 7, -1), 1);
        DUE.is("cup: between", x.banned(4, 7, -1), 0);
        x.shut(0, 5, false);
        x.level(5, 90);
        x.flow(1, 5, 90);
        x.cup(0, 5, false);
        DUE.is("shut: the last told of that day", x.runs(0, 7, 7), 0);
        DUE.is("level: the last told of that day", x.runs(1, 7, 7), 0);
        DUE.is("flow: the last told of that day", x.drips(1, 7, 7, 0), 90);
        DUE.is("cup: the last told of that day", x.banned(7, 7, -1), 0);
    }

    private static void beyondToday() {
        CityCups x = Due.withTaps(1);
        x.shut(0, 0, true);
        DUE.is("of the last day, by the last", x.runs(0, 999, 999), 1);
        DUE.is("of the last day, by the first", x.runs(0, 999, 0), 1);
        DUE.is("of the first, by the last", x.runs(0, 0, 999), 1);
        DUE.is("today is day 0 still", x.count(3), 0);
        DUE.is("but none can be told of day 1", x.shut(0, 1, false), -1);
        Due.cap(x, "cap if day=999;");
        x.shut(0, 0, false);
        DUE.is("the last day in a text", x.runs(0, 999, 0), 2);
        DUE.is("the day ahead", x.runs(0, 998, 0), 0);
    }

    /** A TAP and a HOUSE seven steps apart. */
    private static void justSoManySteps() {
        CityCups x = new CityCups();
        x.node(-1);
        x.tap(0, 16 * 3 + 4, 0, true, 0);
        x.house(0);
        x.course(0);
        for (int steps = 6; steps <= 8; steps++) {
            boolean near = steps >= 7;
            DUE.is("covered at " + steps, x.covered(0, steps, 0, 0), near ? 0 : -1);
            DUE.is("thirsty at " + steps, x.thirsty(steps, 0, 0, -1), near ? 0 : 1);
            DUE.is("stations at " + steps, x.stations(1, steps, 0, 0, 0), near ? 1 : -1);
            DUE.is("horse at once at " + steps, x.horse(0, 16 * 3 + 4, steps, 0, 0), near ? 0 : -1);
            DUE.is("horse by the tap at " + steps, x.horse(0, 16 * 6 + 8, steps, 0, 0), near ? 1 : -1);
        }
        x.shut(0, 0, true);
        for (int steps = 6; steps <= 8; steps++) {
            boolean near = steps >= 7;
            DUE.is("mend at " + steps, x.mend(steps, 0, 0, 0), near ? 1 : 0);
            DUE.is("bound at " + steps, x.mend(steps, 0, 0, 1), near ? 1 : 0);
            DUE.is("stays at " + steps, x.mend(steps, 0, 0, 2), near ? 0 : 1);
            DUE.is("gift at " + steps, x.gift(16 * 3 + 4, steps, 0, 0), near ? 1 : 0);
        }
        x.house(0);
        DUE.is("both in one cell, 0 steps", x.gift(0, 0, 0, 0), 2);
        DUE.is("30 steps", x.gift(255, 30, 0, 0), 2);
        DUE.is("29 steps", x.gift(255, 29, 0, 0), 0);
    }

    private static void germsAtTheWindowsEnds() {
        int[] windows = {1, 2, 30, 59, 60};
        for (int window : windows) {
            CityCups x = Due.withTaps(1);
            x.day(200);
            x.bottle(0, 100, true);
            DUE.is(window + ": the day itself", x.germs(100, window, 200), 1);
            DUE.is(window + ": the day ahead", x.germs(99, window, 200), 0);
            DUE.is(window + ": the window's first day", x.germs(100 + window - 1, window, 200), 1);
            DUE.is(window + ": ahead of the window", x.germs(100 + window, window, 200), 0);
        }
        CityCups x = Due.withTaps(1);
        x.bottle(0, 0, true);
        DUE.is("a window over day 0", x.germs(0, 60, 0), 1);
        DUE.is("its last day", x.germs(59, 60, 0), 1);
        DUE.is("behind it", x.germs(60, 60, 0), 0);
        DUE.is("the last day", x.germs(999, 60, 999), 0);
        // A BOTTLE without germs bears only while it is in the window, too.
        x = seven();
        x.bottle(0, 5, true);
        x.bottle(1, 4, false);
        DUE.is("it is in", x.germs(5, 2, 7), 2);
        DUE.is("it is out", x.germs(5, 1, 7), 3);
    }

    private static void errorToBothSides() {
        int[][] rows = {{0, 0, 0, 0}, {0, 99, 0, 99}, {98, 99, 0, 197}, {99, 99, 0, 198}, {100, 99, 1, 199},
            {5, 5, 0, 10}, {5, 4, 1, 9}, {5, 6, 0, 11}, {9999, 0, 9999, 9999}, {9999, 99, 9900, 10098}};
        for (int[] row : rows) {
            CityCups x = Due.withTaps(0);
            x.flow(0, 0, row[0]);
            DUE.is("no error at first", x.drips(0, 0, 0, 0), row[0]);
            x.error(row[1]);
            String name = row[0] + " off by " + row[1];
            DUE.is("the least of " + name, x.drips(0, 0, 0, 0), row[2]);
            DUE.is("the most of " + name, x.drips(0, 0, 0, 1), row[3]);
        }
        CityCups x = seven();
        x.flow(0, 0, 100);
        x.flow(1, 0, 100);
        int[][] both = {{0, 0, 0}, {1, 0, 2}, {50, 0, 100}, {99, 0, 198}};
        for (int[] row : both) {
            x.error(row[0]);
            DUE.is("as much as flows on, off by " + row[0], x.drips(0, 0, 7, 0), row[1]);
            DUE.is("at most, off by " + row[0], x.drips(0, 0, 7, 1), row[2]);
        }
        x.error(10);
        x.flow(1, 0, 5);
        DUE.is("what flows on isn't below 0", x.drips(0, 0, 7, 1), 110);
        DUE.is("it may be 15", x.drips(0, 0, 7, 0), 75);
    }

    private static void flowsNotKnown() {
        CityCups x = seven();
        x.node(0);
        x.flow(0, 0, 9999);
        x.flow(1, 0, 1);
        DUE.is("one of two isn't known: the least", x.drips(0, 0, 7, 0), 0);
        DUE.is("one of two isn't known: the most", x.drips(0, 0, 7, 1), 9998);
        x.error(99);
        DUE.is("what isn't known isn't off", x.drips(0, 0, 7, 1), 9999 + 99);
        x = Due.withTaps(0);
        x.node(0);
        x.flow(0, 0, 9999);
        x.error(99);
        DUE.is("9999 at most flow on", x.drips(0, 0, 0, 0), 0);
        DUE.is("or nothing", x.drips(0, 0, 0, 1), 10098);
        DUE.is("its own isn't known", x.drips(1, 0, 0, 0), -1);
        DUE.is("its own isn't known, the most", x.drips(1, 0, 0, 1), -1);
    }

    /** One node over 23, each with as much as there can be: far below 0 is 0 still. */
    private static void flowsAtTheirMost() {
        CityCups x = Due.withTaps(0);
        x.flow(0, 0, 9999);
        for (int i = 1; i < 24; i++) {
            x.node(0);
            x.flow(i, 0, 9999);
        }
        x.error(99);
        DUE.is("the least", x.drips(0, 0, 0, 0), 0);
        DUE.is("the most", x.drips(0, 0, 0, 1), 0);
        DUE.is("a leaf's most", x.drips(23, 0, 0, 1), 10098);
    }

    private static void comparedIs(CityCups x, String condition, boolean due) {
        DUE.is("cap if " + condition, Due.cap(x, "cap if " + condition + ";"), 1);
        DUE.is(condition, x.runs(0, 0, 0), due ? 2 : 0);
    }

    private static void comparedWithNumbers() {
        CityCups x = new CityCups();
        x.node(-1);
        x.tap(0, 0, 0, false, 0);
        for (int high = 0; high <= 100; high += 50) {
            x.level(0, high);
            for (int number = Math.max(0, high - 1); number <= high + 1; number++) {
                comparedIs(x, "level<" + number, high < number);
                comparedIs(x, "level>" + number, high > number);
                comparedIs(x, "level=" + number, high == number);
            }
        }
        String[] zero = {"age", "node", "trough", "day", "cost"};
        for (String word : zero) {
            comparedIs(x, word + "=0", true);
            comparedIs(x, word + "<0", false);
            comparedIs(x, word + ">0", false);
            comparedIs(x, word + "<1", true);
            comparedIs(x, word + "=1", false);
            comparedIs(x, word + "=99999", false);
            comparedIs(x, word + "<99999", true);
            comparedIs(x, word + ">99999", false);
        }
        Due.trust(x, "pay any if cost=9999;", 1, 0);
        Due.trust(x, "pay any if cost>9998;", 1, 0);
        Due.trust(x, "pay any if cost<2;", 1, 0);
        DUE.is("the highest cost", x.payers(0, 0, 9999), 3);
        DUE.is("one less", x.payers(0, 0, 9998), 0);
        DUE.is("the least cost", x.payers(0, 0, 1), 4);
        DUE.is("one more", x.payers(0, 0, 2), 0);
        x = new CityCups();
        for (int i = 0; i < 24; i++) {
            x.node(i - 1);
        }
        x.tap(23, 0, 0, true, 0);
        comparedIs(x, "node=23", true);
        comparedIs(x, "node>22", true);
        comparedIs(x, "node<23", false);
        comparedIs(x, "trough=1", true);
        comparedIs(x, "trough<1", false);
    }

    /** Which of all bytes are blanks, which begin a token, which begin none. */
    private static void signsAndLetters() {
        for (int sign = 0; sign < 256; sign++) {
            boolean blank = sign == 32 || sign == 10;
            boolean letter = sign >= 'a' && sign <= 'z';
            CityCups x = new CityCups();
            String name = "byte " + sign;
            DUE.is("cap and " + name, Due.cap(x, "cap" + (char) sign + ";"), blank ? 1 : -1);
            DUE.is("fault of cap and " + name, x.fault(), blank ? -1 : letter ? 0 : sign == ';' ? 4 : 3);
            DUE.is(name + " and cap", Due.cap(x, (char) sign + "cap;"), blank ? 1 : -1);
            DUE.is("fault of " + name + " and cap", x.fault(), blank ? -1 : 0);
            DUE.is("statement and " + name, Due.cap(x, "cap;" + (char) sign), blank ? 1 : -1);
            DUE.is("fault of statement and " + name, x.fault(), blank ? -1 : 4);
            boolean digit = sign >= '0' && sign <= '9';
            DUE.is("number and " + name, Due.cap(x, "cap if day<1" + (char) sign + ";"), blank || digit ? 1 : -1);
            DUE.is("fault of number and " + name, x.fault(), blank || digit ? -1 : sign == ';' ? 13 : 12);
            boolean compares = sign == '<' || sign == '>' || sign == '=';
            DUE.is("word and " + name, Due.cap(x, "cap if day" + (char) sign + "1;"), compares ? 1 : -1);
            DUE.is("fault of word and " + name, x.fault(), compares ? -1 : letter ? 7 : blank ? 11 : 10);
        }
    }

    private static void lettersOfNames() {
        for (int sign = 0; sign < 256; sign++) {
            boolean letter = sign >= 'a' && sign <= 'z';
            CityCups x = Due.withTaps(1);
            String name = "a" + (char) sign + "a";
            DUE.is("donor with byte " + sign, Due.donor(x, name), letter ? 0 : -1);
            DUE.is("its fault", x.fault(), letter ? -1 : 1);
            boolean may = letter || sign == '.';
            DUE.is("worn with byte " + sign, Due.worn(x, 0, name), may ? letter ? 1 : 0 : -1);
            DUE.is("its fault", x.fault(), may ? -1 : 1);
            DUE.is("any one", Due.worn(x, 0, "a.a"), letter ? 1 : 0);
        }
    }

    private static void bytesOfNumbers() {
        int[] numbers = {LEAST, -1, MOST, 0, 0x61FFFFFF, 0x6161FF61, 0x616161E1, 0x61610061};
        int[] faults = {0, 0, 0, 0, 1, 2, 3, 2};
        for (int i = 0; i < numbers.length; i++) {
            CityCups x = new CityCups();
            DUE.is("feed " + numbers[i], x.feed(numbers[i], LEAST, MOST, -1, 0), 20);
            DUE.is("four bytes of " + numbers[i], x.donor(4), -1);
            DUE.is("the first that is no letter", x.fault(), faults[i]);
            DUE.is("feed last", x.feed(0x61616161, 0x62626262, 0x63636363, 0x20202020, numbers[i]), 20);
            DUE.is("the first twelve", x.donor(12), 0);
        }
        CityCups x = new CityCups();
        x.feed(0x20202020, 0x20202020, 0x20202020, 0x20202020, 0x20202063);
        x.feed(0x61703B0A, 0, 0, 0, 0);
        DUE.is("a word over two feeds", x.cap(24), 1);
        x.feed(0x6361703B, 0x2300FF80, 0, 0, 0);
        DUE.is("what is behind the text doesn't count", x.cap(4), 1);
        DUE.is("and is gone", x.count(9), 0);
    }
}
