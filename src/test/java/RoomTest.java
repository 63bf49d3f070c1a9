import java.lang.management.ManagementFactory;

/** One room holds all that the calls of a run make: questions make nothing, and a whole object stays small. */
public final class RoomTest {
    private static final Due DUE = new Due();
    private static final com.sun.management.ThreadMXBean BEAN =
            (com.sun.management.ThreadMXBean) ManagementFactory.getThreadMXBean();
    private static int sum;

    public static void main(String[] args) {
        CityCups warm = full();
        for (int i = 0; i < 200; i++) {
            questions(warm);
        }
        long before = allocated();
        CityCups x = new CityCups();
        long made = allocated() - before;
        DUE.is("bytes of a new object are " + made, made < 60_000, true);
        before = allocated();
        x.image();
        long image = allocated() - before;
        DUE.is("bytes of an image are " + image, image < 25_000, true);
        CityCups asked = full();
        before = allocated();
        questions(asked);
        long bytes = allocated() - before;
        DUE.is("bytes of all questions are " + bytes, bytes < 500, true);
        System.out.println("new " + made + ", image " + image + ", questions " + bytes + " (" + (sum & 1) + ")");
        DUE.end("RoomTest");
    }

    private static long allocated() {
        return BEAN.getThreadAllocatedBytes(Thread.currentThread().getId());
    }

    private static CityCups full() {
        CityCups x = new CityCups();
        for (int i = 0; i < 24; i++) {
            x.node(i - 1);
            x.tap(i, (i * 37) % 256, i * 100, true, i);
        }
        for (int i = 0; i < 30; i++) {
            x.house((i * 53) % 256);
        }
        for (int i = 0; i < 12; i++) {
            x.shut(i, 0, true);
            x.night(0, 50);
            x.burst(i, 0);
        }
        for (int i = 0; i < 20; i++) {
            x.course(i);
            Due.donor(x, "ab");
            Due.worn(x, i, "..");
        }
        for (int i = 0; i < 5; i++) {
            Due.trust(x, "pay any if cost<100;", 0xFFFFFF, 100);
        }
        Due.cap(x, "cap if level<10 and not (age>3 or node=2);");
        for (int i = 0; i < 6; i++) {
            x.job(i, 0, 60 + i, 0);
        }
        return x;
    }

    private static void questions(CityCups x) {
        sum += x.runs(0, 0, 0) + x.covered(0, 30, 0, 0) + x.thirsty(2, 0, 0, -1);
        sum += x.mend(4, 0, 0, 0) + x.mend(4, 0, 0, 1) + x.germs(0, 1, 0) + x.lead(3, 0) + x.drips(0, 0, 0, 1);
        sum += x.pays(0, 0) + x.council(0) + x.late(-1) + x.round(255, 0) + x.frost(127, 0, 3, 0);
        sum += x.fits(0, -1) + x.gift(0, 3, 0, 0) + x.beside(0, 999, 0, 2) + x.hurts(0, 999, 0, 2) + x.gone(0);
        sum += x.horse(0, 255, 5, 0, 0) + x.stations(3, 2, 0, 0, 0) + x.watch(3, 0, 0) + x.filled(-1, 0, 9, 9);
        sum += x.busiest(0, 9, 9, 0) + x.banned(0, 0, -1) + x.payers(0, 0, 1) + x.could(0, 0) + x.remembers(0);
        sum += x.count(3) + (x.back(0) ? 1 : 0);
    }
}
