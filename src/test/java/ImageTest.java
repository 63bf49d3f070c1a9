/** Promises 59 to 61: IMAGES, what they bring back and what stays as it is, and what is counted. */
public final class ImageTest {
    private static final Due DUE = new Due();
    private static final int ASKED = 60;

    public static void main(String[] args) {
        limits();
        allIsAsThen();
        overAnotherCity();
        textsStay();
        coinIsAsThen();
        numbersGoOn();
        imagesStay();
        counts();
        DUE.end("ImageTest");
    }

    private static void limits() {
        CityCups x = new CityCups();
        DUE.is("back(0) of none", x.back(0), false);
        DUE.is("back(-1)", x.back(-1), false);
        for (int i = 0; i < 3; i++) {
            DUE.is("image " + i, x.image(), i);
            DUE.is("count(20)", x.count(20), i + 1);
        }
        DUE.is("a fourth", x.image(), -1);
        DUE.is("count(20)", x.count(20), 3);
        DUE.is("back(3)", x.back(3), false);
        DUE.is("back(2)", x.back(2), true);
        DUE.is("count(20)", x.count(20), 3);
    }

    private static CityCups lively() {
        CityCups x = new CityCups();
        x.node(-1);
        x.node(0);
        x.tap(1, 0, 100, true, 7);
        x.tap(0, 9, 200, false, 8);
        x.house(1);
        x.house(12);
        x.course(0);
        x.course(9);
        Due.cap(x, "cap if level<20;");
        Due.trust(x, "pay any;", 3, 50);
        Due.donor(x, "ab");
        Due.worn(x, 0, "a.");
        x.day(10);
        x.shut(1, 4, true);
        x.level(5, 30);
        x.bottle(0, 6, true);
        x.test(0, 6, true);
        x.flow(0, 7, 100);
        x.flow(1, 7, 40);
        x.error(3);
        x.cold(0, 11);
        x.job(0, 2, 20, 5);
        x.job(1, 1, 40, 5);
        x.done(0, 8);
        x.hard(0, 1);
        x.night(9, 30);
        x.burst(0, 9);
        x.damage(0, 9, 13);
        x.hurt(0, 9, 55);
        x.fill(1, 9, 66);
        x.cup(0, 9, true);
        x.plant(0, 9, true);
        x.ban(9);
        return x;
    }

    private static void change(CityCups x) {
        x.node(1);
        x.tap(2, 11, 0, true, 9);
        x.house(200);
        x.course(3);
        x.day(11);
        x.shut(1, 4, false);
        x.shut(0, 1, true);
        x.level(5, 10);
        x.level(11, 10);
        x.bottle(1, 6, false);
        x.bottle(1, 6, true);
        x.test(1, 6, false);
        x.test(0, 6, false);
        x.flow(0, 7, 900);
        x.flow(1, 6, 1);
        x.error(90);
        x.cold(0, 12);
        x.done(1, 11);
        x.job(2, 2, 1, 0);
        x.job(0, 2, 1, 0);
        x.done(3, 9);
        x.settle();
        x.hard(0, 70);
        x.hard(1, 1);
        x.night(9, 1);
        x.burst(1, 9);
        x.damage(0, 9, 3);
        x.damage(0, 9, 3);
        x.hurt(0, 9, 1);
        x.fill(0, 9, 700);
        x.cup(0, 9, false);
        x.cup(1, 9, true);
        x.plant(0, 9, false);
        x.ban(0);
    }

    private static long ask(CityCups x, int i) {
        switch (i) {
            case 0: return x.count(0);
            case 1: return x.count(1);
            case 2: return x.count(2);
            case 3: return x.count(3);
            case 4: return x.count(6);
            case 5: return x.count(7);
            case 6: return x.count(8);
            case 7: return x.count(22);
            case 8: return x.count(23);
            case 9: return x.count(10);
            case 10: return x.runs(0, 999, 999);
            case 11: return x.runs(1, 999, 999);
            case 12: return x.covered(0, 30, 999, 999);
            case 13: return x.thirsty(3, 999, 999, -1);
            case 14: return x.mend(4, 999, 999, 0);
            case 15: return x.germs(10, 60, 999);
            case 16: return x.lead(1, 999);
            case 17: return x.drips(0, 999, 999, 0);
            case 18: return x.drips(0, 999, 999, 1);
            case 19: return x.council(0);
            case 20: return x.council(1);
            case 21: return x.council(2);
            case 22: return x.late(-1);
            case 23: return x.late(0);
            case 24: return x.round(3, 255);
            case 25: return x.frost(3, 0, 99, 0);
            case 26: return x.gift(200, 30, 999, 999);
            case 27: return x.wears(0, 999);
            case 28: return x.gone(0);
            case 29: return x.gone(1);
            case 30: return x.beside(0, 999, 999, 0);
            case 31: return x.beside(0, 999, 999, 1);
            case 32: return x.beside(0, 999, 999, 2);
            case 33: return x.beside(0, 999, 999, 3);
            case 34: return x.hurts(0, 999, 999, 0);
            case 35: return x.hurts(0, 999, 999, 1);
            case 36: return x.hurts(0, 999, 999, 2);
            case 37: return x.horse(3, 192, 12, 8, 999);
            case 38: return x.stations(2, 0, 999, 999, 0);
            case 39: return x.watch(1, 999, 0);
            case 40: return x.watch(24, 999, 1);
            case 41: return x.filled(-1, 0, 999, 999);
            case 42: return x.busiest(0, 999, 999, 0);
            case 43: return x.banned(999, 999, 0);
            case 44: return x.banned(8, 999, -1);
            case 45: return x.remembers(0);
            case 46: return x.runs(2, 0, 0);
            case 47: return x.pays(0, 2);
            case 48: return x.lead(2, 0);
            default: return x.count(i);
        }
    }

    private static void allIsAsThen() {
        CityCups x = lively();
        long[] then = new long[ASKED];
        for (int i = 0; i < ASKED; i++) {
            then[i] = ask(x, i);
        }
        x.image();
        change(x);
        int changed = 0;
        for (int i = 0; i < ASKED; i++) {
            changed += ask(x, i) != then[i] ? 1 : 0;
        }
        DUE.is("much has changed", changed > 30, true);
        DUE.is("back", x.back(0), true);
        for (int i = 0; i < ASKED; i++) {
            DUE.is("answer " + i + " as then", ask(x, i), then[i]);
        }
        // How many of each are told is as then, too.
        DUE.is("shut", x.shut(0, 0, false), 2);
        DUE.is("level", x.level(0, 1), 2);
        DUE.is("bottle", x.bottle(0, 0, false), 2);
        DUE.is("test", x.test(0, 0, false), 2);
        DUE.is("flow", x.flow(0, 0, 1), 3);
        DUE.is("night", x.night(0, 0), 2);
        DUE.is("burst", x.burst(0, 0), 2);
        DUE.is("damage", x.damage(0, 0, 0), 2);
        DUE.is("hurt", x.hurt(0, 0, 0), 2);
        DUE.is("fill", x.fill(0, 0, 0), 2);
        DUE.is("cup", x.cup(0, 0, false), 2);
        DUE.is("plant", x.plant(0, 0, false), 2);
        DUE.is("back again", x.back(0), true);
        DUE.is("an image is not changed by what came", x.shut(0, 0, false), 2);
        DUE.is("tap 2 is new again", x.tap(0, 0, 0, false, 0), 2);
        DUE.is("it is as hard as at first", x.wears(2, 999), 5);
        DUE.is("it has no trough", x.plant(2, 0, true), -1);
        DUE.is("node 2 is new again", x.node(-1), 2);
        DUE.is("it is a source", x.lead(2, 0), -1);
    }

    /** The image of a city is brought back over quite another one, with as many of each. */
    private static void overAnotherCity() {
        CityCups x = new CityCups();
        x.image();
        long[] then = new long[ASKED];
        build(x, 3);
        for (int i = 0; i < ASKED; i++) {
            then[i] = ask(x, i);
        }
        long[] more = {x.round(7, 0), x.frost(7, 0, 9, 0), x.frost(7, 0, 9, 1), x.runs(0, 0, 3), x.late(1), x.gone(0)};
        x.image();
        x.back(0);
        DUE.is("empty", x.count(0) + x.count(1) + x.count(2) + x.count(3) + x.count(6), 0);
        build(x, 5);
        x.back(1);
        for (int i = 0; i < ASKED; i++) {
            DUE.is("answer " + i + " of the other city", ask(x, i), then[i]);
        }
        long[] again = {x.round(7, 0), x.frost(7, 0, 9, 0), x.frost(7, 0, 9, 1), x.runs(0, 0, 3), x.late(1), x.gone(0)};
        for (int i = 0; i < more.length; i++) {
            DUE.is("more " + i, again[i], more[i]);
        }
        for (int steps = 0; steps < 12; steps++) {
            CityCups twin = new CityCups();
            build(twin, 3);
            DUE.is("covered", x.covered(1, steps, 3, 3), twin.covered(1, steps, 3, 3));
            DUE.is("stations", x.stations(1, steps, 3, 3, 0), twin.stations(1, steps, 3, 3, 0));
            DUE.is("runs", x.runs(1, steps, 3), twin.runs(1, steps, 3));
            DUE.is("not known", x.runs(1, steps, 1), twin.runs(1, steps, 1));
            DUE.is("frost", x.frost(2, 0, 1 + steps, 0), twin.frost(2, 0, 1 + steps, 0));
            DUE.is("drips", x.drips(1, steps, 3, 1), twin.drips(1, steps, 3, 1));
            DUE.is("germs", x.germs(steps, 1, 3), twin.germs(steps, 1, 3));
            DUE.is("lead", x.lead(2, 3), twin.lead(2, 3));
            DUE.is("wears", x.wears(1, 90 * steps), twin.wears(1, 90 * steps));
            DUE.is("late", x.late(0), twin.late(0));
            DUE.is("council", x.council(0), twin.council(0));
        }
        DUE.is("paid as then", x.count(8), 3);
        x.job(0, 0, 1, 0);
        DUE.is("a job more is asked", x.council(2), 2);
    }

    private static void build(CityCups x, int v) {
        x.node(-1);
        x.node(0);
        x.node(v == 3 ? 1 : 0);
        for (int t = 0; t < 3; t++) {
            x.tap((t + v) % 3, (t * v * 5) % 256, 30000 - 4000 * v + t, v == 3, t + v);
            x.hard(t, 40 + v);
        }
        for (int h = 0; h < 3; h++) {
            x.house((h * v * 7) % 256);
            x.course((h * v * 3) % 256);
        }
        x.cold(0, v);
        x.cold(3, 3 * v);
        x.cold(5, 100 - v);
        x.day(v - 2);
        x.job(1, v == 3 ? 2 : 1, 10 + v, v - 2);
        x.job(1, v == 3 ? 2 : 3, 20 + v, 0);
        x.job(v == 3 ? 0 : 2, v == 3 ? 0 : 2, 30 + v, 0);
        if (v == 3) {
            x.settle();
        }
        x.job(1, 2, 50 + v, 1);
        x.shut(0, 0, v == 3);
        x.flow(1, v - 2, 90 * v);
        x.flow(2, v - 2, 20 * v);
        x.day(v);
        x.done(1, v - 1);
        x.shut(1, v - 1, v == 3);
        x.shut(v == 3 ? 1 : 2, v, v != 3);
        x.bottle(v == 3 ? 2 : 0, v - 1, true);
        x.test(v == 3 ? 1 : 2, v - 1, v == 3);
    }

    private static void textsStay() {
        CityCups x = lively();
        x.image();
        Due.cap(x, "spare;cap;cap;");
        Due.trust(x, "", 0, 5);
        Due.donor(x, "ac");
        Due.worn(x, 1, "..");
        Due.donor(x, "a1");
        x.feed(0, 0, 0, 0, 0);
        DUE.is("back", x.back(0), true);
        DUE.is("the cap", x.count(21), 3);
        DUE.is("trusts", x.count(4), 2);
        DUE.is("donors", x.count(5), 2);
        DUE.is("worn names", x.count(24), 2);
        DUE.is("the tape", x.count(9), 20);
        DUE.is("the fault", x.fault(), 1);
        DUE.is("could", x.could(1, 1), 1);
    }

    private static void coinIsAsThen() {
        CityCups x = Due.withTaps(1);
        Due.trust(x, "pay any;", 1, 100);
        x.image();
        Due.trust(x, "pay any;", 1, 200);
        x.image();
        x.job(0, 0, 60, 0);
        x.job(0, 0, 70, 0);
        x.settle();
        DUE.is("coin 0", x.count(10), 30);
        DUE.is("coin 1", x.count(11), 140);
        DUE.is("back(0)", x.back(0), true);
        DUE.is("coin 0 as then", x.count(10), 100);
        DUE.is("coin of the one that was not there stays", x.count(11), 140);
        DUE.is("no job", x.count(6), 0);
        DUE.is("back(1)", x.back(1), true);
        DUE.is("coin 0 as then", x.count(10), 100);
        DUE.is("coin 1 as then", x.count(11), 200);
        DUE.is("its text pays still", x.payers(0, 0, 1), 3);
    }

    private static void numbersGoOn() {
        CityCups x = Due.withTaps(0);
        x.image();
        for (int i = 0; i < 24; i++) {
            x.tap(0, 0, 0, true, 0);
        }
        Due.trust(x, "pay any;", 1 << 23, 9);
        DUE.is("tap 23", x.payers(23, 0, 1), 1);
        x.back(0);
        DUE.is("no tap 23", x.payers(23, 0, 1), -1);
        DUE.is("tap 0 anew", x.tap(0, 0, 0, true, 0), 0);
    }

    private static void imagesStay() {
        CityCups x = new CityCups();
        x.image();
        x.house(0);
        x.image();
        x.house(0);
        x.back(0);
        DUE.is("none", x.count(2), 0);
        x.back(1);
        DUE.is("one", x.count(2), 1);
        x.house(0);
        DUE.is("a third image", x.image(), 2);
        x.back(1);
        x.back(2);
        DUE.is("two", x.count(2), 2);
        DUE.is("images", x.count(20), 3);
    }

    private static void counts() {
        CityCups x = lively();
        int[] due = {2, 2, 2, 10, 1, 1, 2, 1, 0, 0};
        for (int what = 0; what < due.length; what++) {
            DUE.is("count(" + what + ")", x.count(what), due[what]);
        }
        DUE.is("count(10)", x.count(10), 50);
        for (int what = 11; what < 20; what++) {
            DUE.is("count(" + what + ")", x.count(what), -1);
        }
        int[] more = {0, 1, 2, 9, 1};
        for (int i = 0; i < more.length; i++) {
            DUE.is("count(" + (20 + i) + ")", x.count(20 + i), more[i]);
        }
        DUE.is("count(25)", x.count(25), -1);
        DUE.is("count(-1)", x.count(-1), -1);
        DUE.is("count of the lowest", x.count(Integer.MIN_VALUE), -1);
        DUE.is("count of the highest", x.count(Integer.MAX_VALUE), -1);
        for (int t = 1; t < 5; t++) {
            Due.trust(x, "", 0, t);
        }
        DUE.is("count(14)", x.count(14), 4);
        DUE.is("count(15)", x.count(15), -1);
    }
}
