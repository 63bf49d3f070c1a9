/** Promises 13 to 18: the tape, the CAP, TRUSTS, DONORS and WORN names as texts, and the FAULT. */
public final class TextTest {
    private static final Due DUE = new Due();

    public static void main(String[] args) {
        tape();
        bytesOfATape();
        refusedCaps();
        capFaults();
        statementsAtTheLimit();
        openAtTheLimit();
        capStays();
        conditions();
        words();
        trusts();
        works();
        donorNames();
        wornNames();
        faultStays();
        DUE.end("TextTest");
    }

    private static void tape() {
        CityCups x = new CityCups();
        for (int i = 1; i <= 25; i++) {
            DUE.is("feed " + i, x.feed(0, 0, 0, 0, 0), 20 * i);
        }
        DUE.is("feed beyond 500", x.feed(0, 0, 0, 0, 0), -1);
        DUE.is("count(9)", x.count(9), 500);
        DUE.is("cap(501)", x.cap(501), -2);
        DUE.is("count(9)", x.count(9), 500);
        DUE.is("cap(500)", x.cap(500), -1);
        DUE.is("fault()", x.fault(), 0);
        DUE.is("the tape is empty", x.count(9), 0);
        DUE.is("cap(1)", x.cap(1), -2);
        DUE.is("feed again", x.feed(0, 0, 0, 0, 0), 20);
        DUE.is("cap(0)", x.cap(0), 0);
        DUE.is("empty after cap(0)", x.count(9), 0);
    }

    private static void bytesOfATape() {
        CityCups x = Due.withTaps(1);
        // "abcdefghijkl": each number's highest byte first.
        x.feed(0x61626364, 0x65666768, 0x696A6B6C, 0xFF808182, 0);
        DUE.is("donor of twelve", x.donor(12), 0);
        DUE.is("the same twelve", Due.worn(x, 0, "abcdefghijkl"), 1);
        DUE.is("another order", Due.worn(x, 0, "dcbahgfelkji"), 0);
        x.feed(0x6162FF63, 0, 0, 0, 0);
        DUE.is("byte 255", x.donor(4), -1);
        DUE.is("its place", x.fault(), 2);
    }

    private static void refusedCaps() {
        CityCups x = new CityCups();
        Due.cap(x, "cap if ;");
        int fault = x.fault();
        Due.put(x, "cap;");
        DUE.is("cap(-1)", x.cap(-1), -2);
        DUE.is("cap(21)", x.cap(21), -2);
        DUE.is("the tape stays", x.count(9), 20);
        DUE.is("the fault stays", x.fault(), fault);
        DUE.is("cap(20)", x.cap(20), 1);
        DUE.is("no fault", x.fault(), -1);
    }

    private static void capIs(String text, int due, int fault) {
        CityCups x = new CityCups();
        DUE.is("cap of " + text, Due.cap(x, text), due);
        DUE.is("fault of " + text, x.fault(), fault);
        DUE.is("statements of " + text, x.count(21), Math.max(0, due));
        DUE.is("tape of " + text, x.count(9), 0);
    }

    private static void capFaults() {
        capIs("", 0, -1);
        capIs("  \n ", 0, -1);
        capIs("cap;spare;", 2, -1);
        capIs(" cap\n; \nspare ;", 2, -1);
        capIs("cap", -1, 3);
        capIs("cap  ", -1, 5);
        capIs("ca", -1, 0);
        capIs("Cap;", -1, 0);
        capIs("\tcap;", -1, 0);
        capIs("cap;\t", -1, 4);
        capIs("capif level<1;", -1, 0);
        capIs("cap if;", -1, 6);
        capIs("cap iflevel<1;", -1, 4);
        capIs("cap if level;", -1, 12);
        capIs("cap if level<;", -1, 13);
        capIs("cap if level<<1;", -1, 13);
        capIs("cap if level<=1;", -1, 13);
        capIs("cap if level<1", -1, 14);
        capIs("cap if level<1 level>2;", -1, 15);
        capIs("cap if level<1 or;", -1, 17);
        capIs("cap if level<1 and;", -1, 18);
        capIs("cap if or level<1;", -1, 7);
        capIs("cap if levels<1;", -1, 7);
        capIs("cap if tap<1;", -1, 7);
        capIs("cap if if<1;", -1, 7);
        capIs("cap if 1<level;", -1, 7);
        capIs("cap if level<x;", -1, 13);
        capIs("cap if level<-1;", -1, 13);
        capIs("cap if level<99999;", 1, -1);
        capIs("cap if level<00000;", 1, -1);
        capIs("cap if level<000000;", -1, 13);
        capIs("cap if level<1or level<2;", 1, -1);
        capIs("cap if level<1 2;", -1, 15);
        capIs("cap if (level<1);", 1, -1);
        capIs("cap if (level<1;", -1, 15);
        capIs("cap if (level<1));", -1, 16);
        capIs("cap if ();", -1, 8);
        capIs("cap if not;", -1, 10);
        capIs("cap if not not level=1;", 1, -1);
        capIs("cap if notlevel=1;", -1, 7);
        capIs("cap if not(level=1)and(age>2)or(node<3);", 1, -1);
        capIs("cap if trough=1 and day>5 and cost=0;", 1, -1);
        capIs("cap tap;", -1, 4);
        capIs("cap cap;", -1, 4);
        capIs("cap;;", -1, 4);
        capIs(";", -1, 0);
        capIs("pay any;", -1, 0);
        capIs("spare if age>100;cap;x", -1, 21);
    }

    private static void statementsAtTheLimit() {
        String many = "cap;".repeat(24);
        capIs(many, 24, -1);
        capIs(many + "  \n", 24, -1);
        capIs(many + " spare;", -1, 97);
        capIs(many + " #", -1, 97);
        capIs(many + "x", -1, 96);
        CityCups x = new CityCups();
        String pays = "pay any;".repeat(24);
        DUE.is("a trust with 24", Due.trust(x, pays, 0, 0), 0);
        DUE.is("a trust with 25", Due.trust(x, pays + "pay any;", 0, 0), -1);
        DUE.is("where it begins", x.fault(), 192);
    }

    private static void openAtTheLimit() {
        capIs("cap if " + "(".repeat(9) + "age<1" + ")".repeat(9) + ";", 1, -1);
        capIs("cap if " + "(".repeat(10) + "age<1" + ")".repeat(10) + ";", -1, 16);
        capIs("cap if " + "not ".repeat(9) + "age<1;", 1, -1);
        capIs("cap if " + "not ".repeat(10) + "age<1;", -1, 43);
        capIs("cap if " + "not(".repeat(4) + "not age<1" + ")".repeat(4) + ";", 1, -1);
        capIs("cap if " + "not(".repeat(5) + "age<1" + ")".repeat(5) + ";", -1, 26);
        capIs("cap if " + "not(".repeat(4) + "not age<1 and not age<2 and not(" + "age<1));", -1, 54);
        // Those that are closed again are not open: ever so many may follow one another.
        capIs("cap if " + "not age<1 or ".repeat(30) + "(age<2);", 1, -1);
        capIs("cap if " + "(age<1)and ".repeat(30) + "(age<2);", 1, -1);
    }

    private static void capStays() {
        CityCups x = Due.withTaps(1);
        DUE.is("cap", Due.cap(x, "spare if age>0;cap;"), 2);
        DUE.is("capped", x.runs(0, 0, 0), 2);
        DUE.is("a fault", Due.cap(x, "spare;cap"), -1);
        DUE.is("capped still", x.runs(0, 0, 0), 2);
        DUE.is("statements still", x.count(21), 2);
        DUE.is("another", Due.cap(x, "spare;"), 1);
        DUE.is("spared", x.runs(0, 0, 0), 0);
        DUE.is("none", Due.cap(x, ""), 0);
        DUE.is("runs", x.runs(0, 0, 0), 0);
    }

    private static void holds(CityCups x, String condition, boolean due) {
        DUE.is("cap if " + condition, Due.cap(x, "cap if " + condition + ";"), 1);
        DUE.is(condition, x.runs(1, 7, 9), due ? 2 : 0);
    }

    private static CityCups asked() {
        CityCups x = new CityCups();
        x.node(-1);
        x.node(0);
        x.node(1);
        x.tap(0, 0, 0, false, 0);
        x.tap(2, 0, 713, true, 0);
        x.day(9);
        x.level(6, 40);
        return x;
    }

    private static void conditions() {
        CityCups x = asked();
        String yes = "day=7";
        String no = "day=8";
        holds(x, yes, true);
        holds(x, no, false);
        holds(x, "not " + yes, false);
        holds(x, "not not " + yes, true);
        holds(x, yes + " or " + no + " and " + no, true);
        holds(x, "(" + yes + " or " + no + ") and " + no, false);
        holds(x, no + " and " + no + " or " + yes, true);
        holds(x, no + " and (" + no + " or " + yes + ")", false);
        holds(x, "not " + no + " and " + no, false);
        holds(x, "not (" + no + " and " + no + ")", true);
        holds(x, "not " + yes + " or " + yes, true);
        holds(x, "not (" + yes + " or " + yes + ")", false);
        String nested = yes;
        for (int i = 0; i < 9; i++) {
            nested = no + " or " + yes + " and (" + nested + ")";
        }
        holds(x, nested, true);
        holds(x, nested.replace("(day=7", "(day=8"), false);
        // The first that holds tells.
        Due.cap(x, "spare if day=7;cap;");
        DUE.is("spare first", x.runs(1, 7, 9), 0);
        DUE.is("cap for other days", x.runs(1, 8, 9), 2);
        Due.cap(x, "cap if day=7;spare;cap;");
        DUE.is("cap first", x.runs(1, 7, 9), 2);
        DUE.is("spare for other days", x.runs(1, 8, 9), 0);
    }

    private static void words() {
        CityCups x = asked();
        String[] facts = {"level", "age", "node", "trough", "day", "cost"};
        int[] values = {40, 2, 2, 1, 7, 0};
        for (int i = 0; i < facts.length; i++) {
            for (int number = Math.max(0, values[i] - 1); number <= values[i] + 1; number++) {
                holds(x, facts[i] + "=" + number, values[i] == number);
                holds(x, facts[i] + "<" + number, values[i] < number);
                holds(x, facts[i] + " > " + number, values[i] > number);
            }
        }
        Due.cap(x, "cap if level=100;");
        DUE.is("level of a day with nothing", x.runs(0, 5, 9), 2);
        DUE.is("level not known yet", x.runs(0, 6, 8), 2);
        DUE.is("level known", x.runs(0, 6, 9), 0);
        holds(x, "cost<99999", true);
        holds(x, "cost>99999", false);
        holds(x, "cost=99999", false);
        holds(x, "level<99999", true);
        holds(x, "level>99999", false);
        holds(x, "cost<00001", true);
        holds(x, "level=00040", true);
        Due.cap(x, "cap if age=1;");
        DUE.is("age: day 6", x.runs(1, 6, 9), 2);
        DUE.is("age: day 7", x.runs(1, 7, 9), 0);
    }

    private static void trusts() {
        CityCups x = new CityCups();
        int n = Due.put(x, "pay any;");
        DUE.is("n -1", x.trust(-1, 0, 0), -2);
        DUE.is("n 21", x.trust(21, 0, 0), -2);
        DUE.is("taps -1", x.trust(n, -1, 0), -2);
        DUE.is("taps above", x.trust(n, 1 << 24, 0), -2);
        DUE.is("coin -1", x.trust(n, 0, -1), -2);
        DUE.is("coin above", x.trust(n, 0, 100000), -2);
        DUE.is("the tape stays", x.count(9), 20);
        DUE.is("none is there", x.count(4), 0);
        DUE.is("taps and coin at their most", x.trust(n, (1 << 24) - 1, 99999), 0);
        DUE.is("count(10)", x.count(10), 99999);
        DUE.is("the tape is empty", x.count(9), 0);
        DUE.is("a fault", Due.trust(x, "pay any", 1, 5), -1);
        DUE.is("the fault", x.fault(), 7);
        DUE.is("one is there", x.count(4), 1);
        for (int i = 1; i < 5; i++) {
            DUE.is("trust " + i, Due.trust(x, "", 1, i), i);
            DUE.is("its coin", x.count(10 + i), i);
        }
        n = Due.put(x, "pay any");
        DUE.is("a sixth", x.trust(n, 1, 5), -3);
        DUE.is("a sixth with a wrong n", x.trust(-1, 1, 5), -2);
        DUE.is("the tape stays with five", x.count(9), 20);
        DUE.is("the fault stays with five", x.fault(), -1);
        DUE.is("count(4)", x.count(4), 5);
        DUE.is("count(15)", x.count(15), -1);
    }

    private static void works() {
        String[] works = {"tap", "pipe", "stone", "trough", "name", "any"};
        for (int i = 0; i < works.length; i++) {
            CityCups x = Due.withTaps(2);
            DUE.is("pay " + works[i], Due.trust(x, "pay " + works[i] + ";", 2, 0), 0);
            DUE.is("refuse", Due.trust(x, "refuse " + works[i] + ";pay any;", 3, 0), 1);
            DUE.is("pay if", Due.trust(x, "pay " + works[i] + " if cost<9;", 1, 0), 2);
            for (int work = 0; work < 5; work++) {
                boolean meant = i == 5 || i == work;
                DUE.is(works[i] + " of 0: " + work, x.payers(0, work, 8), meant ? 4 : 2);
                DUE.is(works[i] + " of 1: " + work, x.payers(1, work, 8), meant ? 1 : 2);
                DUE.is(works[i] + " dear: " + work, x.payers(0, work, 9), meant ? 0 : 2);
            }
        }
        CityCups x = new CityCups();
        String[] wrong = {"pay;", "pay cap;", "pay all;", "pay if cost<1;", "cap;", "spare;", "pay tap pipe;"};
        int[] places = {3, 4, 4, 4, 0, 0, 8};
        for (int i = 0; i < wrong.length; i++) {
            DUE.is(wrong[i], Due.trust(x, wrong[i], 0, 0), -1);
            DUE.is("fault of " + wrong[i], x.fault(), places[i]);
        }
    }

    private static void donorNames() {
        CityCups x = new CityCups();
        String[] wrong = {"", "a.b", "Ab", "ab c", "a1", "abcdefghijklm", "abcdefghijkl1", "abcde{", "`", "abcdefghijklmn."};
        int[] places = {0, 1, 0, 2, 1, 12, 12, 5, 0, 12};
        for (int i = 0; i < wrong.length; i++) {
            DUE.is("donor " + wrong[i], Due.donor(x, wrong[i]), -1);
            DUE.is("fault of " + wrong[i], x.fault(), places[i]);
            DUE.is("the tape", x.count(9), 0);
        }
        int n = Due.put(x, "z");
        DUE.is("n -1", x.donor(-1), -2);
        DUE.is("n 21", x.donor(21), -2);
        DUE.is("the fault stays", x.fault(), 12);
        DUE.is("z", x.donor(n), 0);
        DUE.is("no fault", x.fault(), -1);
        for (int i = 1; i < 20; i++) {
            DUE.is("donor " + i, Due.donor(x, i == 1 ? "abcdefghijkl" : "a"), i);
        }
        n = Due.put(x, "a1");
        DUE.is("the 21st", x.donor(n), -3);
        DUE.is("the 21st with a wrong n", x.donor(21), -2);
        DUE.is("the tape stays", x.count(9), 20);
        DUE.is("the fault stays", x.fault(), -1);
        DUE.is("count(5)", x.count(5), 20);
    }

    private static void wornNames() {
        CityCups x = Due.withTaps(2);
        Due.donor(x, "anna");
        Due.donor(x, "anne");
        Due.donor(x, "anna");
        DUE.is("anna", Due.worn(x, 0, "anna"), 2);
        DUE.is("ann.", Due.worn(x, 0, "ann."), 3);
        DUE.is("....", Due.worn(x, 0, "...."), 3);
        DUE.is("...", Due.worn(x, 0, "..."), 0);
        DUE.is(".....", Due.worn(x, 0, "....."), 0);
        DUE.is("b...", Due.worn(x, 0, "b..."), 0);
        DUE.is("count(24)", x.count(24), 1);
        DUE.is("............", Due.worn(x, 1, "............"), 0);
        DUE.is("thirteen", Due.worn(x, 1, "............."), -1);
        DUE.is("its fault", x.fault(), 12);
        DUE.is("nothing", Due.worn(x, 1, ""), -1);
        DUE.is("its fault", x.fault(), 0);
        DUE.is("a blank", Due.worn(x, 1, "a b"), -1);
        DUE.is("its fault", x.fault(), 1);
        DUE.is("what was stays", x.fits(1, -1), 0);
        DUE.is("count(24)", x.count(24), 2);
        int n = Due.put(x, "an.e");
        DUE.is("no such tap", x.worn(2, n), -2);
        DUE.is("tap -1", x.worn(-1, n), -2);
        DUE.is("n -1", x.worn(1, -1), -2);
        DUE.is("n 21", x.worn(1, 21), -2);
        DUE.is("the tape stays", x.count(9), 20);
        DUE.is("the fault stays", x.fault(), 1);
        DUE.is("an.e", x.worn(1, n), 1);
        DUE.is("the tape is empty", x.count(9), 0);
        DUE.is("a donor more", Due.donor(x, "anxe"), 3);
        DUE.is("fits now", x.fits(1, -1), 2);
    }

    private static void faultStays() {
        CityCups x = Due.withTaps(1);
        DUE.is("a fault of a cap", Due.cap(x, "cap"), -1);
        DUE.is("fault()", x.fault(), 3);
        DUE.is("another call", x.house(1), 0);
        DUE.is("fault() still", x.fault(), 3);
        DUE.is("a trust without", Due.trust(x, "pay any;", 1, 1), 0);
        DUE.is("no fault()", x.fault(), -1);
        DUE.is("a fault of a worn name", Due.worn(x, 0, "ab!"), -1);
        DUE.is("fault()", x.fault(), 2);
        DUE.is("a cap without", Due.cap(x, ""), 0);
        DUE.is("no fault()", x.fault(), -1);
    }
}
