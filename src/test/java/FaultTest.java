/** Promises 14, 15 and 18 by chance: texts whose meaning is known as they are made, and broken ones. */
public final class FaultTest {
    private static final Due DUE = new Due();
    private static final String[] FACTS = {"level", "age", "node", "trough", "day", "cost"};
    private static final int[] VALUES = {40, 2, 1, 1, 7, 0};
    private static final String[] WORKS = {"tap", "pipe", "stone", "trough", "name", "any"};

    private static boolean value;

    public static void main(String[] args) {
        for (int run = 0; run < 3000; run++) {
            meaning(run);
        }
        for (int run = 0; run < 6000; run++) {
            broken(run);
        }
        everyTokenEverywhere();
        DUE.end("FaultTest");
    }

    private static final String CONDITION = "not ( level age node trough day cost";
    private static final String EIGHT = "not ( not ( not ( not (";

    /** What has been read, and every token with which such a text goes on (0: a number): of a cap, of a trust, of both. */
    private static final String[][] CAP_GOES_ON = {{"", "cap spare"}, {"cap", "if ;"}, {"spare", "if ;"},
        {"cap;", "cap spare"}, {"spare if day > 3 ;", "cap spare"}};
    private static final String[][] TRUST_GOES_ON = {{"", "pay refuse"}, {"pay", "tap pipe stone trough name any"},
        {"refuse", "tap pipe stone trough name any"}, {"pay any", "if ;"}, {"refuse trough", "if ;"},
        {"pay tap;", "pay refuse"}, {"refuse any if day > 3 ;", "pay refuse"}};
    private static final String[][] BOTH_GO_ON = {{"", CONDITION}, {"not", CONDITION}, {"(", CONDITION},
        {"level < 5 or", CONDITION}, {"level < 5 and", CONDITION}, {"level", "< > ="}, {"trough", "< > ="},
        {"cost", "< > ="}, {"day <", "0"}, {"age >", "0"}, {"node =", "0"}, {"level < 5", "and or ;"},
        {"not level < 5", "and or ;"}, {"( level < 5", "and or )"}, {"( level < 5 )", "and or ;"},
        {"not ( ( level < 5 )", "and or )"}, {"age > 1 or day = 1 and cost < 1", "and or ;"},
        {EIGHT, CONDITION},
        {EIGHT + " not", "level age node trough day cost"}, {"( ( ( ( ( ( ( ( (", "level age node trough day cost"},
        {"not not not not not not not not not", "level age node trough day cost"}};

    private static final String[] TOKENS = {"cap", "spare", "pay", "refuse", "if", "and", "or", "not", "(", ")", ";",
        "<", ">", "=", "level", "age", "node", "trough", "day", "cost", "tap", "pipe", "stone", "name", "any", "0",
        "99999", "00000", "100000", "000000", "a", "z", "ca", "caps", "lev", "levels", "andor", "work", "Cap", "LEVEL",
        "+", "-", ",", ".", "\t", "\r", "\u0000", "\u0001", "\u0005", "\u0015", "\u001f", "!", "/", ":", "?", "@", "[",
        "`", "{", "\u007f", "\u0080", "\u00a0", "\u00e9", "\u00ff"};

    private static void everyTokenEverywhere() {
        for (String[] state : CAP_GOES_ON) {
            everyToken(false, state[0], state[1]);
        }
        for (String[] state : TRUST_GOES_ON) {
            everyToken(true, state[0], state[1]);
        }
        for (String[] state : BOTH_GO_ON) {
            everyToken(false, "cap if " + state[0], state[1]);
            everyToken(true, "pay any if " + state[0], state[1]);
        }
    }

    private static void everyToken(boolean ofTrust, String read, String goesOn) {
        for (String token : TOKENS) {
            boolean number = token.matches("\\d{1,5}");
            boolean taken = (" " + goesOn + " ").contains(number ? " 0 " : " " + token + " ");
            String before = read.isEmpty() ? "" : read + " ";
            String text = before + token + "\n";
            boolean whole = taken && token.equals(";");
            CityCups x = Due.withTaps(2);
            int answer = ofTrust ? Due.trust(x, text, 3, 5) : Due.cap(x, text);
            DUE.is("'" + text + "' has a fault", answer == -1, !whole);
            DUE.is("fault of '" + text + "'", x.fault(), whole ? -1 : taken ? text.length() : before.length());
        }
    }

    private static String blank() {
        return new String[] {" ", " ", " ", "\n", "  "}[DUE.any(5)];
    }

    private static String gap() {
        return new String[] {"", "", " ", "\n"}[DUE.any(4)];
    }

    /** A ONE with so many opens left; its value stands in the field then. */
    private static String one(int opens) {
        int kind = opens > 0 ? DUE.any(4) : 3;
        if (kind == 0) {
            String inner = one(opens - 1);
            value = !value;
            return "not" + blank() + inner;
        }
        if (kind == 1) {
            return "(" + gap() + any(opens - 1) + gap() + ")";
        }
        int fact = DUE.any(6);
        int number = Math.max(0, VALUES[fact] - 1 + DUE.any(3));
        int sign = DUE.any(3);
        value = sign == 0 ? VALUES[fact] < number : sign == 1 ? VALUES[fact] > number : VALUES[fact] == number;
        String digits = DUE.any(4) == 0 ? String.format("%05d", number) : "" + number;
        return FACTS[fact] + gap() + "<>=".charAt(sign) + gap() + digits;
    }

    private static String all(int opens) {
        StringBuilder text = new StringBuilder(one(opens));
        boolean so = value;
        while (DUE.any(3) == 0) {
            text.append(blank()).append("and").append(blank()).append(one(opens));
            so &= value;
        }
        value = so;
        return text.toString();
    }

    private static String any(int opens) {
        StringBuilder text = new StringBuilder(all(opens));
        boolean so = value;
        while (DUE.any(3) == 0) {
            text.append(blank()).append("or").append(blank()).append(all(opens));
            so |= value;
        }
        value = so;
        return text.toString();
    }

    private static CityCups asked() {
        CityCups x = new CityCups();
        x.node(-1);
        x.node(0);
        x.tap(1, 0, 713, true, 0);
        x.day(7);
        x.level(6, 40);
        return x;
    }

    private static void meaning(int run) {
        StringBuilder text = new StringBuilder();
        boolean trust = run % 2 == 0;
        int work = DUE.any(5);
        int cost = 1 + DUE.any(3);
        VALUES[5] = trust ? cost : 0;
        int statements = DUE.any(4);
        int due = -1;
        for (int i = 0; i < statements; i++) {
            boolean yes = DUE.any(2) == 0;
            int of = DUE.any(6);
            text.append(gap()).append(trust ? yes ? "pay" : "refuse" : yes ? "cap" : "spare");
            text.append(trust ? blank() + WORKS[of] : "");
            value = true;
            text.append(DUE.any(4) == 0 ? "" : blank() + "if" + blank() + any(DUE.any(10)));
            boolean tells = value && (!trust || of == 5 || of == work);
            due = due < 0 && tells ? yes ? 1 : 0 : due;
            text.append(gap()).append(";");
        }
        if (text.length() > 500) {
            return;
        }
        CityCups x = asked();
        if (trust) {
            DUE.is("trust " + text, Due.trust(x, text.toString(), 1, 0), 0);
            DUE.is("payers of " + text, x.payers(0, work, cost), Math.max(0, due));
        } else {
            DUE.is("cap " + text, Due.cap(x, text.toString()), statements);
            DUE.is("runs of " + text, x.runs(0, 7, 7), due == 1 ? 2 : 0);
        }
        DUE.is("fault of " + text, x.fault(), -1);
    }

    private static void broken(int run) {
        StringBuilder text = new StringBuilder();
        boolean trust = run % 2 == 0;
        for (int i = 0; i < 1 + DUE.any(3); i++) {
            text.append(trust ? "pay " + WORKS[DUE.any(6)] : "cap").append(" if ").append(any(DUE.any(12))).append(";");
        }
        String[] bits = {";", "(", ")", " ", "not ", "and ", "or ", "1", "a", "<", "#", "cap", "pay", "if ", "level", "A"};
        for (int i = 0; i < DUE.any(3); i++) {
            int at = DUE.any(text.length());
            if (DUE.any(2) == 0) {
                text.insert(at, bits[DUE.any(bits.length)]);
            } else {
                text.deleteCharAt(at);
            }
        }
        if (text.length() > 500) {
            return;
        }
        int n = DUE.any(3) == 0 ? DUE.any(text.length() + 1) : text.length();
        CityCups x = new CityCups();
        Plain y = new Plain();
        Due.put(x, text.toString());
        for (int[] f : Due.feeds(text.toString())) {
            y.feed(f[0], f[1], f[2], f[3], f[4]);
        }
        int got = trust ? x.trust(n, 0, 0) : x.cap(n);
        DUE.is("answer of " + text.substring(0, n), got, trust ? y.trust(n, 0, 0) : y.cap(n));
        DUE.is("fault of " + text.substring(0, n), x.fault(), y.fault());
        DUE.is("faulty is " + text.substring(0, n), got == -1, x.fault() >= 0);
    }
}
