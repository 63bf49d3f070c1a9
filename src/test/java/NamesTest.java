import java.util.ArrayList;
import java.util.List;

/** Promises 34, 57 and 58: which DONORS FIT, who COULD have given what, whom a TAP REMEMBERS. */
public final class NamesTest {
    private static final Due DUE = new Due();

    public static void main(String[] args) {
        fitting();
        ways();
        waysOfFew();
        goneTaps();
        full();
        chain();
        againstAllWays();
        DUE.end("NamesTest");
    }

    private static void fitting() {
        CityCups x = Due.withTaps(2);
        DUE.is("no name", x.fits(0, -1), -1);
        DUE.is("tap -1", x.fits(-1, -1), -1);
        DUE.is("tap 2", x.fits(2, -1), -1);
        Due.worn(x, 0, "a.c");
        DUE.is("no donors", x.fits(0, -1), 0);
        Due.donor(x, "abc");
        Due.donor(x, "abd");
        Due.donor(x, "axc");
        Due.donor(x, "abcd");
        Due.donor(x, "ac");
        DUE.is("two", x.fits(0, -1), 2);
        DUE.is("the first", x.fits(0, 0), 0);
        DUE.is("the second", x.fits(0, 1), 2);
        DUE.is("no third", x.fits(0, 2), -1);
        DUE.is("k -2", x.fits(0, -2), -1);
        DUE.is("the other has none", x.fits(1, 0), -1);
        x = Due.withTaps(1);
        Due.worn(x, 0, "a.");
        Due.donor(x, "bb");
        DUE.is("a donor that comes later and does not fit", x.fits(0, -1), 0);
        Due.donor(x, "ab");
        DUE.is("one that fits", x.fits(0, 0), 1);
        Due.donor(x, "ba");
        DUE.is("one more that does not", x.fits(0, -1), 1);
    }

    private static void ways() {
        CityCups x = Due.withTaps(3);
        Due.donor(x, "ida");
        Due.donor(x, "eva");
        Due.donor(x, "eva");
        DUE.is("no name: could", x.could(0, 0), -1);
        DUE.is("no name: remembers", x.remembers(0), -2);
        Due.worn(x, 0, "..a");
        DUE.is("several", x.remembers(0), -1);
        DUE.is("could", x.could(0, 2), 1);
        DUE.is("donor 3", x.could(0, 3), -1);
        DUE.is("donor -1", x.could(0, -1), -1);
        DUE.is("tap 3", x.could(3, 0), -1);
        DUE.is("tap -1", x.could(-1, 0), -1);
        DUE.is("tap 3 remembers", x.remembers(3), -2);
        DUE.is("tap -1 remembers", x.remembers(-1), -2);
        Due.worn(x, 1, "e..");
        DUE.is("still several", x.remembers(0), -1);
        Due.worn(x, 2, "ev.");
        DUE.is("both evas are taken", x.remembers(0), 0);
        DUE.is("one of two", x.remembers(1), -1);
        DUE.is("not an eva", x.could(0, 1), 0);
        DUE.is("either eva", x.could(1, 2), 1);
        DUE.is("either eva", x.could(1, 1), 1);
        DUE.is("does not fit", x.could(1, 0), 0);
        Due.worn(x, 0, "eva");
        DUE.is("three for two", x.remembers(0), -2);
        DUE.is("no way", x.could(1, 1), 0);
        Due.donor(x, "eva");
        DUE.is("a third eva", x.could(1, 1), 1);
        DUE.is("several again", x.remembers(0), -1);
    }

    private static void waysOfFew() {
        CityCups x = Due.withTaps(2);
        Due.worn(x, 0, "a");
        DUE.is("without donors", x.remembers(0), -2);
        Due.donor(x, "a");
        DUE.is("the only one", x.remembers(0), 0);
        Due.worn(x, 1, "b");
        DUE.is("a name that none fits spoils all", x.remembers(0), -2);
        DUE.is("could not", x.could(0, 0), 0);
    }

    private static void goneTaps() {
        CityCups x = Due.withTaps(1);
        x.image();
        x.tap(0, 0, 0, true, 0);
        Due.donor(x, "a");
        Due.worn(x, 0, "a");
        Due.worn(x, 1, ".");
        DUE.is("two for one", x.remembers(0), -2);
        DUE.is("count(24)", x.count(24), 2);
        x.back(0);
        DUE.is("the other tap isn't there", x.remembers(0), 0);
        DUE.is("no such tap", x.fits(1, -1), -1);
        DUE.is("count(24)", x.count(24), 1);
        Due.donor(x, "b");
        x.tap(0, 0, 0, true, 0);
        DUE.is("its name was kept", x.fits(1, -1), 2);
        DUE.is("and counts", x.remembers(1), 1);
        DUE.is("count(24)", x.count(24), 2);
    }

    /** As many names as DONORS, each of which fits all; and one more. */
    private static void full() {
        CityCups x = Due.withTaps(24);
        for (int i = 0; i < 20; i++) {
            String name = "aaaaaaaaaaaa".substring(0, 11) + (char) ('a' + i);
            Due.donor(x, name);
        }
        for (int i = 0; i < 20; i++) {
            Due.worn(x, i, "............");
        }
        DUE.is("twenty for twenty", x.remembers(0), -1);
        DUE.is("could", x.could(19, 0), 1);
        Due.worn(x, 20, "............");
        DUE.is("one too many", x.could(19, 0), 0);
        DUE.is("one too many", x.remembers(20), -2);
    }

    /** Each name fits two DONORS, one behind the other; the last name takes the first DONOR, and moves all others on. */
    private static void chain() {
        CityCups x = Due.withTaps(24);
        for (int i = 0; i < 20; i++) {
            Due.donor(x, i == 19 ? "zz" : "" + (char) ('a' + i / 2) + (char) ('a' + (i + 1) / 2));
        }
        for (int i = 0; i < 18; i++) {
            Due.worn(x, i, i % 2 == 0 ? (char) ('a' + i / 2) + "." : "." + (char) ('a' + (i + 1) / 2));
            DUE.is("two fit " + i, x.fits(i, -1), 2);
            DUE.is("the second of them", x.fits(i, 1), i + 1);
        }
        Due.worn(x, 23, "zz");
        DUE.is("several could", x.remembers(0), -1);
        Due.worn(x, 22, "aa");
        for (int i = 0; i < 18; i++) {
            DUE.is("moved on " + i, x.remembers(i), i + 1);
            DUE.is("it can't be the first", x.could(i, i), 0);
        }
        DUE.is("the last name", x.remembers(22), 0);
        DUE.is("one beside the chain", x.remembers(23), 19);
        Due.worn(x, 21, "i.");
        DUE.is("none is left for one more", x.remembers(23), -2);
    }

    private static void againstAllWays() {
        for (int run = 0; run < 150; run++) {
            int taps = 1 + DUE.any(6);
            int donors = DUE.any(8);
            CityCups x = Due.withTaps(taps);
            String[] names = new String[donors];
            for (int d = 0; d < donors; d++) {
                names[d] = "" + (char) ('a' + DUE.any(2)) + (char) ('a' + DUE.any(3));
                Due.donor(x, names[d]);
            }
            String[] worn = new String[taps];
            for (int t = 0; t < taps; t++) {
                if (DUE.any(5) > 0) {
                    worn[t] = "" + ".ab".charAt(DUE.any(3)) + "..abc".charAt(DUE.any(5));
                    Due.worn(x, t, worn[t]);
                }
            }
            boolean[][] could = new boolean[taps][donors];
            collect(0, new int[taps], new ArrayList<>(), worn, names, could);
            for (int t = 0; t < taps; t++) {
                int many = 0;
                int last = -2;
                for (int d = 0; d < donors; d++) {
                    many += could[t][d] ? 1 : 0;
                    last = could[t][d] ? d : last;
                    int due = worn[t] == null ? -1 : could[t][d] ? 1 : 0;
                    DUE.is("run " + run + ": could " + t + " " + d, x.could(t, d), due);
                }
                DUE.is("run " + run + ": remembers " + t, x.remembers(t), many > 1 ? -1 : last);
            }
        }
    }

    private static void collect(int tap, int[] way, List<Integer> taken, String[] worn, String[] names,
            boolean[][] could) {
        if (tap == worn.length) {
            for (int t = 0; t < tap; t++) {
                if (worn[t] != null) {
                    could[t][way[t]] = true;
                }
            }
            return;
        }
        if (worn[tap] == null) {
            collect(tap + 1, way, taken, worn, names, could);
            return;
        }
        for (int d = 0; d < names.length; d++) {
            if (!taken.contains(d) && names[d].matches(worn[tap])) {
                way[tap] = d;
                taken.add(d);
                collect(tap + 1, way, taken, worn, names, could);
                taken.remove((Integer) d);
            }
        }
    }
}
