/** Promises 6 to 12 and 37 to 44: what is told of DAYS, its limits, and from when it is KNOWN. */
public final class TellingTest {
    private static final Due DUE = new Due();
    private static final int KINDS = 12;
    private static final String[] NAMES = {"shut", "level", "bottle", "test", "flow", "night", "burst", "damage",
        "hurt", "fill", "cup", "plant"};
    private static final int[] MOST = {80, 40, 60, 40, 60, 40, 40, 40, 40, 80, 40, 40};

    public static void main(String[] args) {
        for (int kind = 0; kind < KINDS; kind++) {
            limits(kind);
            wrongDays(kind);
            wrongSubjects(kind);
        }
        wrongValues();
        errors();
        colds();
        lastKnown();
        lastKnownByChance();
        plantings();
        bans();
        DUE.end("TellingTest");
    }

    /** One telling of a kind; the value stands for what the kind tells beside the day. */
    private static int tell(CityCups x, int kind, int subject, int day, int value) {
        switch (kind) {
            case 0: return x.shut(subject, day, value != 0);
            case 1: return x.level(day, value);
            case 2: return x.bottle(subject, day, value != 0);
            case 3: return x.test(subject, day, value != 0);
            case 4: return x.flow(subject, day, value);
            case 5: return x.night(day, value);
            case 6: return x.burst(subject, day);
            case 7: return x.damage(subject, day, value);
            case 8: return x.hurt(subject, day, value);
            case 9: return x.fill(subject, day, value);
            case 10: return x.cup(subject, day, value != 0);
            default: return x.plant(subject, day, value != 0);
        }
    }

    private static void limits(int kind) {
        CityCups x = Due.withTaps(1);
        for (int i = 1; i <= MOST[kind]; i++) {
            DUE.is(NAMES[kind] + " " + i, tell(x, kind, 0, 0, 1), i);
        }
        DUE.is(NAMES[kind] + ", one too many", tell(x, kind, 0, 0, 1), -1);
        for (int other = 0; other < KINDS; other++) {
            if (other != kind) {
                DUE.is(NAMES[other] + " beside " + NAMES[kind], tell(x, other, 0, 0, 1), 1);
            }
        }
    }

    private static void wrongDays(int kind) {
        CityCups x = Due.withTaps(1);
        DUE.is(NAMES[kind] + " of day 1 on day 0", tell(x, kind, 0, 1, 1), -1);
        DUE.is(NAMES[kind] + " of day -1", tell(x, kind, 0, -1, 1), -1);
        DUE.is(NAMES[kind] + " of day 0", tell(x, kind, 0, 0, 1), 1);
        x.day(999);
        DUE.is(NAMES[kind] + " of day 1000", tell(x, kind, 0, 1000, 1), -1);
        DUE.is(NAMES[kind] + " of day 999", tell(x, kind, 0, 999, 1), 2);
        DUE.is(NAMES[kind] + " of day 5", tell(x, kind, 0, 5, 1), 3);
    }

    private static void wrongSubjects(int kind) {
        if (kind == 1 || kind == 5) {
            return;
        }
        CityCups x = new CityCups();
        DUE.is(NAMES[kind] + " of none", tell(x, kind, 0, 0, 1), -1);
        x = Due.withTaps(1);
        DUE.is(NAMES[kind] + " of 1", tell(x, kind, 1, 0, 1), -1);
        DUE.is(NAMES[kind] + " of -1", tell(x, kind, -1, 0, 1), -1);
        DUE.is(NAMES[kind] + " of 0", tell(x, kind, 0, 0, 1), 1);
    }

    private static void wrongValues() {
        int[] kinds = {1, 4, 5, 7, 8, 9};
        int[] most = {100, 9999, 100, 23, 9999, 9999};
        for (int i = 0; i < kinds.length; i++) {
            CityCups x = Due.withTaps(1);
            String name = NAMES[kinds[i]];
            DUE.is(name + " of -1", tell(x, kinds[i], 0, 0, -1), -1);
            DUE.is(name + " above the most", tell(x, kinds[i], 0, 0, most[i] + 1), -1);
            DUE.is(name + " of 0", tell(x, kinds[i], 0, 0, 0), 1);
            DUE.is(name + " of the most", tell(x, kinds[i], 0, 0, most[i]), 2);
        }
    }

    private static void errors() {
        CityCups x = Due.withTaps(0);
        x.flow(0, 0, 50);
        DUE.is("error(-1)", x.error(-1), false);
        DUE.is("error(100)", x.error(100), false);
        DUE.is("drips, no error", x.drips(0, 0, 0, 1), 50);
        DUE.is("error(99)", x.error(99), true);
        DUE.is("drips, error 99, most", x.drips(0, 0, 0, 1), 149);
        DUE.is("drips, error 99, least", x.drips(0, 0, 0, 0), 0);
        DUE.is("error(0)", x.error(0), true);
        DUE.is("drips, error 0", x.drips(0, 0, 0, 0), 50);
    }

    private static void colds() {
        CityCups x = Due.withTaps(2);
        DUE.is("cold(-1, 5)", x.cold(-1, 5), false);
        DUE.is("cold(24, 5)", x.cold(24, 5), false);
        DUE.is("cold(0, -1)", x.cold(0, -1), false);
        DUE.is("cold(0, 101)", x.cold(0, 101), false);
        DUE.is("no cold at first", x.frost(2, 0, 1, 0), 0);
        DUE.is("cold(0, 100)", x.cold(0, 100), true);
        DUE.is("the cold of hour 0", x.frost(2, 0, 1, 0), 1000);
        DUE.is("cold(0, 0)", x.cold(0, 0), true);
        DUE.is("no cold again", x.frost(2, 0, 1, 0), 0);
        DUE.is("cold(23, 7)", x.cold(23, 7), true);
        DUE.is("the cold of hour 23", x.frost(2, 255, 1, 0), 70);
    }

    private static void lastKnown() {
        CityCups x = Due.withTaps(2);
        x.day(10);
        x.shut(0, 5, true);
        x.shut(0, 8, false);
        x.day(20);
        x.shut(0, 6, false);
        x.shut(0, 8, true);
        x.shut(1, 8, false);
        DUE.is("ahead of all", x.runs(0, 4, 20), 0);
        DUE.is("day 5", x.runs(0, 5, 20), 1);
        DUE.is("day 6 as known by 10", x.runs(0, 6, 10), 1);
        DUE.is("day 6 as known by 19", x.runs(0, 6, 19), 1);
        DUE.is("day 6 as known by 20", x.runs(0, 6, 20), 0);
        DUE.is("day 8 as known by 10", x.runs(0, 8, 10), 0);
        DUE.is("day 8, told last", x.runs(0, 8, 20), 1);
        DUE.is("day 999 as known by 999", x.runs(0, 999, 999), 1);
        DUE.is("day 8 as known by 9", x.runs(0, 8, 9), 0);
        DUE.is("the other tap", x.runs(1, 8, 20), 0);
    }

    /** Rows in any order of days and of when they are told, looked through plainly. */
    private static void lastKnownByChance() {
        for (int run = 0; run < 40; run++) {
            CityCups x = Due.withTaps(3);
            int rows = 1 + DUE.any(40);
            int[][] told = new int[rows][];
            int today = 0;
            for (int i = 0; i < rows; i++) {
                if (DUE.any(4) == 0 && x.day(today + 1)) {
                    today++;
                }
                told[i] = new int[] {DUE.any(3), DUE.any(today + 1), DUE.any(2), today};
                x.shut(told[i][0], told[i][1], told[i][2] == 1);
                x.flow(0, told[i][1], i);
            }
            for (int ask = 0; ask < 60; ask++) {
                int day = DUE.any(today + 2);
                int known = DUE.any(today + 2);
                int[] best = {-1, -1, -1, -1};
                int flow = -1;
                for (int i = 0; i < rows; i++) {
                    int tap = told[i][0];
                    if (told[i][1] <= day && told[i][3] <= known) {
                        best[tap] = best[tap] < 0 || told[best[tap]][1] <= told[i][1] ? i : best[tap];
                        flow = flow < 0 || told[flow][1] <= told[i][1] ? i : flow;
                    }
                }
                for (int tap = 0; tap < 3; tap++) {
                    int due = best[tap] < 0 ? 0 : told[best[tap]][2];
                    DUE.is("run " + run + ": tap " + tap + " on " + day + " by " + known, x.runs(tap, day, known), due);
                }
                DUE.is("run " + run + ": flow on " + day + " by " + known, x.drips(0, day, known, 0), flow);
            }
        }
    }

    private static void plantings() {
        CityCups x = new CityCups();
        x.node(-1);
        x.tap(0, 0, 0, false, 0);
        x.tap(0, 0, 0, true, 0);
        DUE.is("a tap without a trough", x.plant(0, 0, true), -1);
        DUE.is("a tap without a trough, not any more", x.plant(0, 0, false), -1);
        DUE.is("cap", Due.cap(x, "cap if trough=1;"), 1);
        DUE.is("no trough", x.runs(0, 0, 0), 0);
        DUE.is("a trough", x.runs(1, 0, 0), 2);
        x.day(3);
        DUE.is("planted", x.plant(1, 2, true), 1);
        DUE.is("ahead of it", x.runs(1, 1, 3), 2);
        DUE.is("not known yet", x.runs(1, 2, 2), 2);
        DUE.is("planted is none", x.runs(1, 2, 3), 0);
        DUE.is("not any more", x.plant(1, 3, false), 2);
        DUE.is("a trough again", x.runs(1, 3, 3), 2);
    }

    private static void bans() {
        CityCups x = Due.withTaps(2);
        x.cup(0, 0, true);
        DUE.is("ban(-2)", x.ban(-2), false);
        DUE.is("ban(1000)", x.ban(1000), false);
        DUE.is("count(23)", x.count(23), -1);
        DUE.is("ban(999)", x.ban(999), true);
        DUE.is("count(23)", x.count(23), 999);
        DUE.is("banned(998)", x.banned(998, 0, -1), 0);
        DUE.is("banned(999)", x.banned(999, 0, -1), 1);
        DUE.is("ban(0)", x.ban(0), true);
        DUE.is("banned(0)", x.banned(0, 0, -1), 1);
        DUE.is("ban(-1)", x.ban(-1), true);
        DUE.is("banned(999)", x.banned(999, 999, -1), 0);
        DUE.is("count(23)", x.count(23), -1);
    }
}
