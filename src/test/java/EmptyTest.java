/** What is empty, where there are fewer than asked for, and where several are alike. */
public final class EmptyTest {
    private static final Due DUE = new Due();

    public static void main(String[] args) {
        nothingToTellOf();
        nothingToAskOf();
        nothingToWalkTo();
        nothingWritten();
        noTaps();
        noHouses();
        nothingKnown();
        noJobIsAsked();
        noTrusts();
        noCourse();
        noWornName();
        noDonors();
        noText();
        noStatementHolds();
        noImage();
        theKthOfFewer();
        ofSeveralTheLeast();
        DUE.end("EmptyTest");
    }

    private static void nothingToTellOf() {
        CityCups x = new CityCups();
        DUE.is("tap", x.tap(0, 0, 0, true, 0), -1);
        DUE.is("shut", x.shut(0, 0, true), -1);
        DUE.is("bottle", x.bottle(0, 0, true), -1);
        DUE.is("test", x.test(0, 0, true), -1);
        DUE.is("flow", x.flow(0, 0, 0), -1);
        DUE.is("job", x.job(0, 0, 1, 0), -1);
        DUE.is("done", x.done(0, 0), false);
        DUE.is("hard", x.hard(0, 50), false);
        DUE.is("burst", x.burst(0, 0), -1);
        DUE.is("damage", x.damage(0, 0, 0), -1);
        DUE.is("hurt", x.hurt(0, 0, 0), -1);
        DUE.is("fill", x.fill(0, 0, 0), -1);
        DUE.is("cup", x.cup(0, 0, true), -1);
        DUE.is("plant", x.plant(0, 0, true), -1);
        String unlike = Look.unlike(x, new CityCups());
        DUE.is("nothing came of these, but" + unlike, unlike.isEmpty(), true);
        // What is told of all the city needs nothing in it.
        x = new CityCups();
        DUE.is("level", x.level(0, 0), 1);
        DUE.is("night", x.night(0, 0), 1);
        DUE.is("error", x.error(0), true);
        DUE.is("cold", x.cold(0, 0), true);
        DUE.is("ban", x.ban(0), true);
        DUE.is("ban of none", x.ban(-1), true);
        DUE.is("course", x.course(0), 1);
        DUE.is("house", x.house(0), 0);
    }

    private static void nothingToAskOf() {
        CityCups x = new CityCups();
        DUE.is("runs", x.runs(0, 0, 0), -1);
        DUE.is("covered", x.covered(0, 0, 0, 0), -2);
        DUE.is("thirsty", x.thirsty(0, 0, 0, -1), 0);
        DUE.is("the first thirsty", x.thirsty(0, 0, 0, 0), -1);
        DUE.is("germs", x.germs(0, 1, 0), 0);
        DUE.is("lead", x.lead(0, 0), -1);
        DUE.is("drips", x.drips(0, 0, 0, 0), -1);
        DUE.is("pays", x.pays(0, 0), -1);
        DUE.is("payers", x.payers(0, 0, 1), -1);
        DUE.is("late", x.late(0), -2);
        DUE.is("late of all", x.late(-1), 0);
        DUE.is("wears", x.wears(0, 0), -1);
        DUE.is("gone", x.gone(0), -1);
        DUE.is("filled", x.filled(0, 0, 0, 0), -1);
        DUE.is("filled of all", x.filled(-1, 0, 999, 999), 0);
        DUE.is("busiest", x.busiest(0, 0, 0, 0), -1);
        DUE.is("banned", x.banned(0, 0, -1), 0);
        DUE.is("the first banned", x.banned(0, 0, 0), -1);
        DUE.is("watch", x.watch(24, 999, 0), 0);
        DUE.is("watch, how many", x.watch(24, 999, 1), 0);
        for (int what = 0; what < 4; what++) {
            DUE.is("mend " + what, x.mend(30, 999, 999, what), what < 3 ? 0 : -1);
            DUE.is("beside " + what, x.beside(0, 999, 999, what), 0);
            DUE.is("hurts " + what, x.hurts(0, 999, 999, what), what < 3 ? 0 : -1);
        }
    }

    private static void nothingToWalkTo() {
        CityCups x = new CityCups();
        DUE.is("round of none", x.round(0, 0), -1);
        DUE.is("round of one", x.round(1, 0), -1);
        DUE.is("frost of none", x.frost(0, 0, 1, 0), -1);
        DUE.is("frost of one", x.frost(1, 0, 1, 0), -1);
        DUE.is("gift", x.gift(0, 30, 0, 0), 0);
        DUE.is("horse to where it is", x.horse(0, 0, 0, 0, 0), 0);
        DUE.is("horse as far as it goes", x.horse(0, 255, 30, 0, 0), 0);
        DUE.is("horse a step farther", x.horse(0, 255, 29, 0, 0), -1);
        DUE.is("stations", x.stations(1, 0, 0, 0, 0), -1);
        DUE.is("stations of many", x.stations(20, 30, 999, 999, 0), -1);
    }

    private static void nothingWritten() {
        CityCups x = new CityCups();
        DUE.is("fault", x.fault(), -1);
        DUE.is("cap of one byte", x.cap(1), -2);
        DUE.is("trust of one byte", x.trust(1, 0, 0), -2);
        DUE.is("donor of one byte", x.donor(1), -2);
        DUE.is("worn without a tap", x.worn(0, 0), -2);
        DUE.is("no fault of these", x.fault(), -1);
        DUE.is("cap of none", x.cap(0), 0);
        DUE.is("trust of none", x.trust(0, 0, 0), 0);
        DUE.is("no fault of these", x.fault(), -1);
        DUE.is("donor of none", x.donor(0), -1);
        DUE.is("its fault", x.fault(), 0);
        DUE.is("fits", x.fits(0, -1), -1);
        DUE.is("could", x.could(0, 0), -1);
        DUE.is("remembers", x.remembers(0), -2);
        DUE.is("back", x.back(0), false);
        DUE.is("image", x.image(), 0);
        DUE.is("back", x.back(0), true);
        DUE.is("settle", x.settle(), -1);
        DUE.is("council", x.council(0) + x.council(1) + x.council(2), 0);
    }

    private static void noTaps() {
        CityCups x = new CityCups();
        x.node(-1);
        for (int i = 0; i < 4; i++) {
            x.house(i);
            x.course(i);
        }
        x.night(0, 100);
        DUE.is("all are thirsty", x.thirsty(30, 0, 0, -1), 4);
        DUE.is("the last", x.thirsty(30, 0, 0, 3), 3);
        DUE.is("covered by none", x.covered(0, 30, 0, 0), -1);
        DUE.is("none to open", x.mend(30, 0, 0, 0), 0);
        DUE.is("no bound", x.mend(30, 0, 0, 1), 0);
        DUE.is("all stay", x.mend(30, 0, 0, 2), 4);
        DUE.is("a gift near all", x.gift(0, 3, 0, 0), 4);
        DUE.is("a gift near two", x.gift(0, 1, 0, 0), 2);
        DUE.is("no station", x.stations(4, 30, 0, 0, 0), -1);
        DUE.is("no station is needed", x.stations(5, 30, 0, 0, 0), 0);
        DUE.is("nor the first", x.stations(5, 30, 0, 0, 1), -1);
        DUE.is("none expected", x.beside(0, 0, 0, 2), 0);
        DUE.is("round", x.round(1, 0), -1);
        DUE.is("all filled", x.filled(-1, 0, 0, 0), 0);
    }

    private static void noHouses() {
        CityCups x = Due.withTaps(2);
        x.shut(0, 0, true);
        DUE.is("none is thirsty", x.thirsty(0, 0, 0, -1), 0);
        DUE.is("none to open", x.mend(30, 0, 0, 0), 0);
        DUE.is("no bound", x.mend(30, 0, 0, 1), 0);
        DUE.is("none stays", x.mend(30, 0, 0, 2), 0);
        DUE.is("a gift for none", x.gift(0, 30, 0, 0), 0);
        DUE.is("no house 0", x.covered(0, 30, 0, 0), -2);
    }

    private static void nothingKnown() {
        CityCups x = Due.withTaps(2);
        x.node(0);
        x.house(0);
        DUE.is("no drips", x.drips(0, 0, 0, 0), -1);
        DUE.is("no drips at most", x.drips(0, 999, 999, 1), -1);
        DUE.is("open", x.lead(1, 999), 2);
        DUE.is("no germs", x.germs(999, 60, 999), 0);
        DUE.is("all run", x.runs(0, 0, 0) + x.runs(1, 999, 999), 0);
        DUE.is("the first covers", x.covered(0, 0, 0, 0), 0);
        Due.cap(x, "cap if level=100;");
        DUE.is("the water is at 100", x.runs(0, 0, 0), 2);
        Due.cap(x, "cap if not (level=100 and trough=1 and cost=0);");
        DUE.is("a trough, no cost", x.runs(0, 0, 0), 0);
        DUE.is("nothing filled", x.filled(0, 0, 999, 999), 0);
        DUE.is("the busiest of alike", x.busiest(0, 999, 999, 0), 0);
        DUE.is("then the other", x.busiest(0, 999, 999, 1), 1);
        x.ban(0);
        DUE.is("no cup hangs", x.banned(999, 999, -1), 0);
        x.burst(0, 0);
        x.hurt(0, 0, 5);
        DUE.is("no night, none expected", x.beside(0, 999, 999, 2), 0);
        DUE.is("no night, no ice", x.hurts(0, 999, 999, 2), 0);
        DUE.is("none was shut", x.beside(0, 999, 999, 3), 0);
        DUE.is("no cold", x.frost(3, 255, 1, 0), 0);
    }

    private static void noJobIsAsked() {
        CityCups x = Due.withTaps(1);
        Due.trust(x, "pay any;", 1, 100);
        CityCups y = Due.withTaps(1);
        Due.trust(y, "pay any;", 1, 100);
        for (int what = 0; what < 3; what++) {
            DUE.is("no job: council " + what, x.council(what), 0);
        }
        DUE.is("no job: settle", x.settle(), -1);
        String unlike = Look.unlike(x, y);
        DUE.is("settle does nothing, but" + unlike, unlike.isEmpty(), true);
        x = Due.withTaps(1);
        Due.trust(x, "pay any;", 1, 100);
        x.job(0, 0, 60, 0);
        x.done(0, 0);
        for (int what = 0; what < 3; what++) {
            DUE.is("all are done: council " + what, x.council(what), 0);
        }
        DUE.is("all are done: settle", x.settle(), -1);
        DUE.is("its coin stays", x.count(10), 100);
        DUE.is("it isn't paid", x.count(8), 0);
        x.job(0, 0, 60, 0);
        DUE.is("settle", x.settle(), 0);
        for (int what = 0; what < 3; what++) {
            DUE.is("all are paid: council " + what, x.council(what), 0);
        }
        DUE.is("all are paid: settle", x.settle(), -1);
        DUE.is("its coin stays", x.count(10), 40);
        DUE.is("one is paid", x.count(8), 1);
        DUE.is("one is done", x.count(7), 1);
    }

    private static void noTrusts() {
        CityCups x = Due.withTaps(1);
        x.job(0, 0, 9999, 0);
        DUE.is("none may pay", x.payers(0, 0, 9999), 0);
        DUE.is("no trust 0", x.pays(0, 0), -1);
        DUE.is("all by the council", x.council(0), 9999);
        DUE.is("the code", x.council(1), 0);
        DUE.is("settled by the council", x.settle(), 9999);
        DUE.is("it is paid", x.count(8), 1);
        DUE.is("no coin", x.count(10), -1);
        // TRUSTS that pay for no TAP.
        Due.trust(x, "pay any;", 0, 99999);
        Due.trust(x, "pay any;", 0xFFFFFE, 99999);
        x.job(0, 0, 7, 0);
        DUE.is("not its tap", x.pays(0, 1) + x.pays(1, 1), 0);
        DUE.is("by the council", x.council(0), 7);
    }

    private static void noCourse() {
        CityCups x = Due.withTaps(1);
        DUE.is("no course", x.stations(1, 0, 0, 0, 0), -1);
        DUE.is("no course, each twenty", x.stations(20, 30, 0, 0, 0), -1);
        DUE.is("no course, the first", x.stations(1, 0, 0, 0, 1), -1);
        x.image();
        x.course(0);
        DUE.is("one", x.stations(1, 0, 0, 0, 0), 1);
        DUE.is("its place", x.stations(1, 0, 0, 0, 1), 0);
        DUE.is("of each two: none is needed", x.stations(2, 0, 0, 0, 0), 0);
        x.back(0);
        DUE.is("no course again", x.stations(1, 0, 0, 0, 0), -1);
    }

    private static void noWornName() {
        CityCups x = Due.withTaps(2);
        Due.donor(x, "a");
        DUE.is("fits", x.fits(0, -1), -1);
        DUE.is("fits, the first", x.fits(0, 0), -1);
        DUE.is("could", x.could(0, 0), -1);
        DUE.is("remembers", x.remembers(0), -2);
        DUE.is("count(24)", x.count(24), 0);
        DUE.is("a worn name with a fault", Due.worn(x, 0, "A"), -1);
        DUE.is("fits still", x.fits(0, -1), -1);
        DUE.is("another tap's", Due.worn(x, 1, "a"), 1);
        DUE.is("fits still", x.fits(0, -1), -1);
        DUE.is("could still", x.could(0, 0), -1);
        DUE.is("remembers still", x.remembers(0), -2);
        DUE.is("the other one", x.remembers(1), 0);
    }

    private static void noDonors() {
        CityCups x = Due.withTaps(1);
        DUE.is("none fits", Due.worn(x, 0, "............"), 0);
        DUE.is("how many", x.fits(0, -1), 0);
        DUE.is("the first", x.fits(0, 0), -1);
        DUE.is("no donor 0", x.could(0, 0), -1);
        DUE.is("none could", x.remembers(0), -2);
    }

    private static void noText() {
        CityCups x = Due.withTaps(1);
        DUE.is("none capped", x.runs(0, 0, 0), 0);
        Due.cap(x, "cap;");
        DUE.is("capped", x.runs(0, 0, 0), 2);
        DUE.is("an empty cap", Due.cap(x, ""), 0);
        DUE.is("no statements", x.count(21), 0);
        DUE.is("none capped", x.runs(0, 0, 0), 0);
        DUE.is("blanks alone", Due.cap(x, " \n \n"), 0);
        DUE.is("no fault", x.fault(), -1);
        Due.cap(x, "cap;");
        x.feed(0x73706172, 0x653B2020, 0, 0, 0);
        DUE.is("of a tape that isn't empty none", x.cap(0), 0);
        DUE.is("the tape is empty then", x.count(9), 0);
        DUE.is("an empty trust", Due.trust(x, "", 1, 5), 0);
        DUE.is("blanks alone", Due.trust(x, "\n", 1, 5), 1);
        DUE.is("they refuse", x.payers(0, 0, 1), 0);
    }

    private static void noStatementHolds() {
        CityCups x = Due.withTaps(1);
        Due.cap(x, "cap if day=1;cap if day=2;");
        DUE.is("spared", x.runs(0, 0, 0), 0);
        DUE.is("capped", x.runs(0, 2, 0), 2);
        DUE.is("spared again", x.runs(0, 3, 0), 0);
        Due.trust(x, "pay tap if cost=2;pay pipe;", 1, 0);
        DUE.is("refused", x.payers(0, 0, 1), 0);
        DUE.is("paid", x.payers(0, 0, 2), 1);
        DUE.is("a work of which nothing is said", x.payers(0, 4, 2), 0);
        DUE.is("another work", x.payers(0, 1, 1), 1);
    }

    private static void noImage() {
        CityCups x = Due.withTaps(1);
        DUE.is("back(0)", x.back(0), false);
        DUE.is("back(-1)", x.back(-1), false);
        String unlike = Look.unlike(x, Due.withTaps(1));
        DUE.is("back does nothing, but" + unlike, unlike.isEmpty(), true);
        // The image of an empty city.
        x = new CityCups();
        x.image();
        x.node(-1);
        x.tap(0, 0, 0, true, 0);
        x.day(9);
        x.back(0);
        unlike = Look.unlike(x, withImage());
        DUE.is("empty again, but" + unlike, unlike.isEmpty(), true);
    }

    private static CityCups withImage() {
        CityCups x = new CityCups();
        x.image();
        return x;
    }

    private static void theKthOfFewer() {
        CityCups x = Due.withTaps(2);
        x.house(0);
        x.house(9);
        x.house(10);
        DUE.is("the first thirsty", x.thirsty(8, 0, 0, 0), 1);
        DUE.is("the last thirsty", x.thirsty(8, 0, 0, 1), 2);
        DUE.is("behind the last thirsty", x.thirsty(8, 0, 0, 2), -1);
        Due.donor(x, "a");
        Due.donor(x, "b");
        Due.donor(x, "a");
        Due.worn(x, 0, "a");
        DUE.is("the last that fits", x.fits(0, 1), 2);
        DUE.is("behind the last that fits", x.fits(0, 2), -1);
        x.ban(0);
        x.cup(1, 0, true);
        DUE.is("the last banned", x.banned(0, 0, 0), 1);
        DUE.is("behind the last banned", x.banned(0, 0, 1), -1);
        DUE.is("the last busiest", x.busiest(0, 0, 0, 1), 1);
        DUE.is("behind the last busiest", x.busiest(0, 0, 0, 2), -1);
        DUE.is("the last of the order", x.frost(3, 0, 1, 2), 1);
        DUE.is("behind the last of the order", x.frost(3, 0, 1, 3), -1);
        x.course(0);
        x.course(0);
        DUE.is("the last station", x.stations(1, 0, 0, 0, 2), 1);
        DUE.is("behind the last station", x.stations(1, 0, 0, 0, 3), -1);
        int[] far = {-2, -3, 24, 30, 31, 32, 33, 64, 65, Integer.MIN_VALUE, Integer.MAX_VALUE};
        for (int k : far) {
            DUE.is("thirsty " + k, x.thirsty(8, 0, 0, k), -1);
            DUE.is("fits " + k, x.fits(0, k), -1);
            DUE.is("banned " + k, x.banned(0, 0, k), -1);
            DUE.is("busiest " + k, x.busiest(0, 0, 0, k), -1);
            DUE.is("frost " + k, x.frost(3, 0, 1, k), -1);
            DUE.is("stations " + k, x.stations(1, 0, 0, 0, k), -1);
        }
    }

    private static void ofSeveralTheLeast() {
        CityCups x = new CityCups();
        x.node(-1);
        int[] cells = {4, 0, 4, 2};
        for (int cell : cells) {
            x.tap(0, cell, 0, true, 1);
        }
        x.house(2);
        DUE.is("covered by the nearest", x.covered(0, 2, 0, 0), 3);
        x.shut(3, 0, true);
        DUE.is("of three as near the least number", x.covered(0, 2, 0, 0), 0);
        x.shut(0, 0, true);
        DUE.is("of two as near", x.covered(0, 2, 0, 0), 1);
        x.shut(1, 0, true);
        x.shut(2, 0, true);
        DUE.is("of four to open the least bits", x.mend(2, 0, 0, 0), 1);
        x.house(0);
        DUE.is("one for both", x.mend(2, 0, 0, 0), 2);
        x.house(6);
        DUE.is("of two pairs the least bits", x.mend(2, 0, 0, 0), 3);
        DUE.is("the order of alike", x.frost(15, 255, 99, 1), 0);
        DUE.is("then", x.frost(15, 255, 99, 2), 1);
        DUE.is("then", x.frost(15, 255, 99, 3), 2);
        DUE.is("then", x.frost(15, 255, 99, 4), 3);
        x.fill(2, 0, 1);
        x.fill(1, 0, 1);
        int[] order = {1, 2, 0, 3};
        for (int k = 0; k < 4; k++) {
            DUE.is("busiest " + k, x.busiest(0, 0, 0, k), order[k]);
        }
        x.damage(0, 0, 20);
        x.damage(0, 0, 4);
        DUE.is("the first hour of alike", x.watch(1, 0, 0), 4);
        DUE.is("three hours: the first of alike", x.watch(3, 0, 0), 2);
        DUE.is("nine hours hold both, over midnight", x.watch(9, 0, 0), 20);
        DUE.is("ten hours", x.watch(10, 0, 0), 19);
        DUE.is("both", x.watch(9, 0, 1), 2);
        for (int t = 0; t < 3; t++) {
            Due.trust(x, "pay any;", 15, 10);
        }
        x.job(0, 0, 10, 0);
        x.job(0, 0, 10, 0);
        DUE.is("of several the least code", x.council(1), 2 + 6);
        x.job(0, 0, 10, 0);
        DUE.is("all three", x.council(1), 3 + 2 * 6 + 36);
        x.job(0, 0, 10, 0);
        DUE.is("one by the council", x.council(0), 10);
        DUE.is("the last, for the least code", x.council(1), 3 + 2 * 6 + 36);
    }
}
