import java.nio.charset.StandardCharsets;
import java.util.Arrays;

/** What the project's tests share: rows of answers that are due, texts on the tape, small numbers without a clock. */
final class Due {
    private int wrong;
    private int asked;
    private long seed = 12345;

    void is(String call, long got, long want) {
        asked++;
        if (got != want) {
            wrong++;
            if (wrong <= 40) {
                System.out.println(call + " answered " + got + ", due is " + want);
            }
        }
    }

    void is(String call, boolean got, boolean want) {
        is(call, got ? 1 : 0, want ? 1 : 0);
    }

    /** Ends the program: with 1, if an answer was not as due, or none was asked. */
    void end(String name) {
        System.out.println(name + ": " + asked + " answers, " + wrong + " not as due");
        if (wrong != 0 || asked == 0) {
            System.exit(1);
        }
    }

    /** A number from 0 to below many; the same ones in every run. */
    int any(int many) {
        seed = seed * 6364136223846793005L + 1442695040888963407L;
        return (int) Math.floorMod(seed >>> 33, (long) many);
    }

    /** A text as the numbers of so many feeds, filled up with blanks. */
    static int[][] feeds(String text) {
        byte[] bytes = text.getBytes(StandardCharsets.ISO_8859_1);
        byte[] full = Arrays.copyOf(bytes, (bytes.length + 19) / 20 * 20);
        Arrays.fill(full, bytes.length, full.length, (byte) ' ');
        int[][] feeds = new int[full.length / 20][5];
        for (int i = 0; i < full.length; i += 4) {
            feeds[i / 20][i % 20 / 4] = four(full, i);
        }
        return feeds;
    }

    /** Puts a text on the (empty) tape, filled up with blanks: its length. */
    static int put(CityCups x, String text) {
        for (int[] f : feeds(text)) {
            x.feed(f[0], f[1], f[2], f[3], f[4]);
        }
        return text.length();
    }

    private static int four(byte[] bytes, int at) {
        return (bytes[at] & 255) << 24 | (bytes[at + 1] & 255) << 16 | (bytes[at + 2] & 255) << 8 | bytes[at + 3] & 255;
    }

    static int cap(CityCups x, String text) {
        return x.cap(put(x, text));
    }

    static int trust(CityCups x, String text, int taps, int coin) {
        return x.trust(put(x, text), taps, coin);
    }

    static int donor(CityCups x, String name) {
        return x.donor(put(x, name));
    }

    static int worn(CityCups x, int tap, String name) {
        return x.worn(tap, put(x, name));
    }

    /** A new object with one source and so many taps on it, all in cell 0. */
    static CityCups withTaps(int taps) {
        CityCups x = new CityCups();
        x.node(CityCups.NONE);
        for (int i = 0; i < taps; i++) {
            x.tap(0, 0, 0, true, 10 * i);
        }
        return x;
    }
}
