import java.util.ArrayList;
import java.util.List;

/** Promises 32, 33, 50 and 51: the ROUND, the order ahead of FROST, the HORSE, the STATIONS. */
public final class WalkTest {
    private static final Due DUE = new Due();

    public static void main(String[] args) {
        rounds();
        frosts();
        frostHours();
        horses();
        horsesThatCannot();
        horseOfAllTaps();
        stationsByHand();
        wrongStations();
        roundsAgainstAllOrders();
        frostsAgainstAllOrders();
        horsesAgainstWaves();
        stationsAgainstAllSets();
        DUE.end("WalkTest");
    }

    private static CityCups line(int taps) {
        CityCups x = new CityCups();
        x.node(-1);
        for (int i = 0; i < taps; i++) {
            x.tap(0, i, 0, true, i + 1);
        }
        return x;
    }

    private static void rounds() {
        CityCups x = line(12);
        DUE.is("one", x.round(1 << 5, 3), 4);
        DUE.is("eight", x.round(255, 0), 14);
        DUE.is("eight of higher numbers", x.round(255 << 4, 0), 22);
        DUE.is("nine", x.round(511, 0), -1);
        DUE.is("none", x.round(0, 0), -1);
        DUE.is("tap 12", x.round(1 << 12, 0), -1);
        DUE.is("tap 12 beside others", x.round(1 << 12 | 1, 0), -1);
        DUE.is("below 0", x.round(-1, 0), -1);
        DUE.is("the lowest", x.round(Integer.MIN_VALUE, 0), -1);
        DUE.is("cell -1", x.round(1, -1), -1);
        DUE.is("cell 256", x.round(1, 256), -1);
        DUE.is("cell 255", x.round(1, 255), 60);
    }

    private static void frosts() {
        CityCups x = line(9);
        for (int hour = 0; hour < 24; hour++) {
            x.cold(hour, hour);
        }
        DUE.is("seven", x.frost(127, 0, 1, 0), 2 + 6 + 12 + 20 + 30 + 42);
        for (int i = 0; i < 7; i++) {
            DUE.is("its order " + i, x.frost(127, 0, 1, 1 + i), i);
        }
        DUE.is("no eighth", x.frost(127, 0, 1, 8), -1);
        DUE.is("eight", x.frost(255, 0, 1, 0), -1);
        DUE.is("none", x.frost(0, 0, 1, 0), -1);
        DUE.is("tap 9", x.frost(512, 0, 1, 0), -1);
        DUE.is("below 0", x.frost(-1, 0, 1, 0), -1);
        DUE.is("cell 256", x.frost(1, 256, 1, 0), -1);
        DUE.is("cell -1", x.frost(1, -1, 1, 0), -1);
        DUE.is("speed 0", x.frost(1, 0, 0, 0), -1);
        DUE.is("speed 100", x.frost(1, 0, 100, 0), -1);
        DUE.is("speed 99", x.frost(1, 255, 99, 0), 1);
        DUE.is("what -1", x.frost(1, 0, 1, -1), -1);
        DUE.is("what 2 of one", x.frost(1, 0, 1, 2), -1);
        DUE.is("what 1 of one", x.frost(1 << 8, 0, 1, 1), 8);
    }

    private static void frostHours() {
        CityCups x = new CityCups();
        x.node(-1);
        x.tap(0, 3, 0, true, 1);
        x.tap(0, 6, 0, true, 1);
        for (int hour = 0; hour < 24; hour++) {
            x.cold(hour, hour);
        }
        // Each way by itself: two of 3 steps at 2 an hour are 2 and 2 hours, not 3 together.
        DUE.is("begun hours count", x.frost(3, 0, 2, 0), 2 + 4);
        DUE.is("three an hour", x.frost(3, 0, 3, 0), 1 + 2);
        DUE.is("no way at all", x.frost(1, 3, 1, 0), 0);
        DUE.is("23 at most", x.frost(1, 255, 1, 0), 23);
        DUE.is("23 at most, both", x.frost(3, 255, 1, 0), 46);
        DUE.is("alike: the least order", x.frost(3, 255, 1, 1), 0);
        DUE.is("alike: the least order, then", x.frost(3, 255, 1, 2), 1);
    }

    private static void horses() {
        CityCups x = new CityCups();
        x.node(-1);
        x.tap(0, 3, 0, true, 0);
        x.tap(0, 6, 0, true, 0);
        x.tap(0, 9, 0, false, 0);
        DUE.is("at once", x.horse(0, 5, 5, 0, 0), 0);
        DUE.is("one drink", x.horse(0, 6, 3, 0, 0), 1);
        DUE.is("two drinks", x.horse(0, 9, 3, 0, 0), 2);
        DUE.is("no trough there", x.horse(0, 12, 3, 0, 0), -1);
        DUE.is("the way back", x.horse(9, 0, 3, 0, 0), 2);
        DUE.is("the same cell", x.horse(7, 7, 0, 0, 0), 0);
        DUE.is("all the city", x.horse(0, 255, 30, 0, 0), 0);
        x.shut(0, 0, true);
        DUE.is("shut", x.horse(0, 9, 3, 0, 0), -1);
        x.shut(0, 0, false);
        x.plant(1, 0, true);
        DUE.is("planted", x.horse(0, 9, 3, 0, 0), -1);
        DUE.is("a longer way", x.horse(0, 9, 6, 0, 0), 1);
        x.plant(1, 0, false);
        Due.cap(x, "cap if day=5;");
        DUE.is("capped", x.horse(0, 9, 3, 5, 0), -1);
        DUE.is("not capped", x.horse(0, 9, 3, 4, 0), 2);
    }

    private static void horsesThatCannot() {
        CityCups x = line(1);
        DUE.is("from -1", x.horse(-1, 0, 0, 0, 0), -1);
        DUE.is("from 256", x.horse(256, 0, 0, 0, 0), -1);
        DUE.is("to -1", x.horse(0, -1, 0, 0, 0), -1);
        DUE.is("to 256", x.horse(0, 256, 0, 0, 0), -1);
        DUE.is("most -1", x.horse(0, 0, -1, 0, 0), -1);
        DUE.is("most 31", x.horse(0, 0, 31, 0, 0), -1);
        DUE.is("day -1", x.horse(0, 0, 0, -1, 0), -1);
        DUE.is("day 1000", x.horse(0, 0, 0, 1000, 0), -1);
        DUE.is("known -1", x.horse(0, 0, 0, 0, -1), -1);
        DUE.is("known 1000", x.horse(0, 0, 0, 0, 1000), -1);
        DUE.is("too far", x.horse(1, 2, 0, 0, 0), -1);
        DUE.is("from 256, near", x.horse(256, 240, 30, 0, 0), -1);
        DUE.is("to 256, near", x.horse(240, 256, 30, 0, 0), -1);
        DUE.is("from -1, near", x.horse(-1, 0, 30, 0, 0), -1);
        DUE.is("to -1, near", x.horse(0, -1, 30, 0, 0), -1);
    }

    private static void horseOfAllTaps() {
        CityCups x = new CityCups();
        x.node(-1);
        for (int i = 1; i <= 15; i++) {
            x.tap(0, i, 0, true, 0);
        }
        x.tap(0, 16 + 15, 0, true, 0);
        for (int i = 15; i >= 8; i--) {
            x.tap(0, 32 + i, 0, true, 0);
        }
        DUE.is("24 drinks", x.horse(0, 32 + 7, 1, 0, 0), 24);
        DUE.is("the way back", x.horse(32 + 7, 0, 1, 0, 0), 24);
        DUE.is("one step more", x.horse(0, 32 + 6, 1, 0, 0), -1);
        for (int i = 0; i < 20; i++) {
            x.course(1);
        }
        DUE.is("twenty stations", x.stations(1, 0, 0, 0, 0), 20);
        DUE.is("the last of them", x.stations(1, 0, 0, 0, 20), 19);
        DUE.is("each twenty", x.stations(20, 0, 0, 0, 1), 19);
    }

    private static void stationsByHand() {
        CityCups x = line(3);
        for (int i = 0; i < 10; i++) {
            x.course(i % 3 == 0 ? 0 : 128);
        }
        // 0, 3, 6 and 9 may be.
        DUE.is("each four", x.stations(4, 0, 0, 0, 0), 2);
        DUE.is("the first, as late", x.stations(4, 0, 0, 0, 1), 3);
        DUE.is("the second", x.stations(4, 0, 0, 0, 2), 6);
        DUE.is("no third", x.stations(4, 0, 0, 0, 3), -1);
        DUE.is("each three", x.stations(3, 0, 0, 0, 0), 4);
        DUE.is("each three: first", x.stations(3, 0, 0, 0, 1), 0);
        DUE.is("each three: third", x.stations(3, 0, 0, 0, 3), 6);
        DUE.is("each two", x.stations(2, 0, 0, 0, 0), -1);
        DUE.is("each two: none of them", x.stations(2, 0, 0, 0, 1), -1);
        DUE.is("each ten", x.stations(10, 0, 0, 0, 1), 9);
        DUE.is("each eleven", x.stations(11, 0, 0, 0, 0), 0);
        DUE.is("each eleven: no first", x.stations(11, 0, 0, 0, 1), -1);
        DUE.is("each one, near all", x.stations(1, 8, 0, 0, 0), 10);
        DUE.is("each one, the last", x.stations(1, 8, 0, 0, 10), 9);
        DUE.is("not near all", x.stations(1, 7, 0, 0, 0), -1);
        x.shut(0, 0, true);
        DUE.is("shut", x.stations(4, 0, 0, 0, 0), -1);
        DUE.is("another is near", x.stations(4, 1, 0, 0, 0), 2);
    }

    private static void wrongStations() {
        CityCups x = line(1);
        DUE.is("no course", x.stations(1, 0, 0, 0, 0), -1);
        x.course(0);
        DUE.is("a course of one", x.stations(1, 0, 0, 0, 0), 1);
        DUE.is("every 0", x.stations(0, 0, 0, 0, 0), -1);
        DUE.is("every 20", x.stations(20, 0, 0, 0, 0), 0);
        DUE.is("every 21", x.stations(21, 0, 0, 0, 0), -1);
        DUE.is("near -1", x.stations(1, -1, 0, 0, 0), -1);
        DUE.is("near 31", x.stations(1, 31, 0, 0, 0), -1);
        DUE.is("day 1000", x.stations(1, 0, 1000, 0, 0), -1);
        DUE.is("known -1", x.stations(1, 0, 0, -1, 0), -1);
        DUE.is("what -1", x.stations(1, 0, 0, 0, -1), -1);
        DUE.is("what 2", x.stations(1, 0, 0, 0, 2), -1);
        DUE.is("what, the highest", x.stations(1, 0, 0, 0, Integer.MAX_VALUE), -1);
    }

    private static int apart(int a, int b) {
        return Math.abs(a % 16 - b % 16) + Math.abs(a / 16 - b / 16);
    }

    private static void orders(List<Integer> left, List<Integer> order, List<List<Integer>> all) {
        if (left.isEmpty()) {
            all.add(new ArrayList<>(order));
        }
        for (int i = 0; i < left.size(); i++) {
            Integer stop = left.remove(i);
            order.add(stop);
            orders(left, order, all);
            order.remove(order.size() - 1);
            left.add(i, stop);
        }
    }

    private static List<List<Integer>> ordersOf(int bits) {
        List<Integer> left = new ArrayList<>();
        for (int i = 0; i < 24; i++) {
            if ((bits >> i & 1) != 0) {
                left.add(i);
            }
        }
        List<List<Integer>> all = new ArrayList<>();
        orders(left, new ArrayList<>(), all);
        return all;
    }

    private static int bitsOf(int many, int among) {
        int bits = 0;
        for (int i = 0; i < many; i++) {
            bits |= 1 << DUE.any(among);
        }
        return bits;
    }

    private static void roundsAgainstAllOrders() {
        for (int run = 0; run < 40; run++) {
            CityCups x = new CityCups();
            x.node(-1);
            int[] cells = new int[10];
            for (int t = 0; t < 10; t++) {
                cells[t] = DUE.any(256);
                x.tap(0, cells[t], 0, true, 0);
            }
            int bits = bitsOf(8, 10);
            int from = DUE.any(256);
            int best = Integer.MAX_VALUE;
            for (List<Integer> order : ordersOf(bits)) {
                int at = from;
                int sum = 0;
                for (int stop : order) {
                    sum += apart(at, cells[stop]);
                    at = cells[stop];
                }
                best = Math.min(best, sum + apart(at, from));
            }
            DUE.is("run " + run + ": round", x.round(bits, from), best);
        }
    }

    private static void frostsAgainstAllOrders() {
        for (int run = 0; run < 60; run++) {
            CityCups x = new CityCups();
            x.node(-1);
            int[] cells = new int[9];
            int[] losses = new int[9];
            for (int t = 0; t < 9; t++) {
                cells[t] = DUE.any(run % 2 == 0 ? 256 : 4);
                losses[t] = DUE.any(run % 3 == 0 ? 1000 : 3);
                x.tap(0, cells[t], 0, true, losses[t]);
            }
            int[] cold = new int[24];
            for (int hour = 0; hour < 24; hour++) {
                cold[hour] = DUE.any(101);
                x.cold(hour, cold[hour]);
            }
            int bits = bitsOf(7, 9);
            int from = DUE.any(256);
            int speed = 1 + DUE.any(12);
            int best = Integer.MAX_VALUE;
            List<Integer> bestOrder = List.of();
            for (List<Integer> order : ordersOf(bits)) {
                int at = from;
                int hour = 0;
                int sum = 0;
                for (int stop : order) {
                    hour += (int) Math.ceil(apart(at, cells[stop]) / (double) speed);
                    at = cells[stop];
                    sum += losses[stop] * cold[Math.min(23, hour)];
                }
                if (sum < best) {
                    best = sum;
                    bestOrder = order;
                }
            }
            DUE.is("run " + run + ": frost", x.frost(bits, from, speed, 0), best);
            for (int i = 0; i < 7; i++) {
                int due = i < bestOrder.size() ? bestOrder.get(i) : -1;
                DUE.is("run " + run + ": order " + i, x.frost(bits, from, speed, 1 + i), due);
            }
        }
    }

    private static void horsesAgainstWaves() {
        for (int run = 0; run < 200; run++) {
            CityCups x = new CityCups();
            x.node(-1);
            int taps = DUE.any(25);
            List<Integer> cells = new ArrayList<>();
            for (int t = 0; t < taps; t++) {
                int cell = DUE.any(256);
                boolean trough = DUE.any(4) > 0;
                x.tap(0, cell, 0, trough, 0);
                if (trough) {
                    cells.add(cell);
                }
            }
            int from = DUE.any(256);
            int to = DUE.any(256);
            int most = DUE.any(10);
            // Grows the cells that can be reached with so many drinks until nothing is new.
            int due = apart(from, to) <= most ? 0 : -1;
            List<Integer> reached = new ArrayList<>(List.of(from));
            for (int drinks = 1; drinks <= taps && due < 0; drinks++) {
                List<Integer> wave = new ArrayList<>(reached);
                for (int cell : cells) {
                    if (reached.stream().anyMatch(at -> apart(at, cell) <= most)) {
                        wave.add(cell);
                    }
                }
                reached = wave;
                due = wave.stream().anyMatch(at -> apart(at, to) <= most) ? drinks : -1;
                reached = new ArrayList<>(reached.stream().distinct().toList());
            }
            DUE.is("run " + run + ": horse", x.horse(from, to, most, 0, 0), due);
        }
    }

    private static void stationsAgainstAllSets() {
        for (int run = 0; run < 120; run++) {
            CityCups x = new CityCups();
            x.node(-1);
            x.tap(0, 0, 0, true, 0);
            int length = 1 + DUE.any(11);
            int may = 0;
            for (int i = 0; i < length; i++) {
                boolean near = DUE.any(3) > 0;
                may |= near ? 1 << i : 0;
                x.course(near ? 1 : 2);
            }
            int every = 1 + DUE.any(length + 1);
            int best = -1;
            for (int set = 0; set < 1 << length; set++) {
                boolean can = (set & ~may) == 0;
                for (int i = 0; i + every <= length; i++) {
                    can &= (set >> i & ((1 << every) - 1)) != 0;
                }
                // Of as few the one whose stations are late: its bits are the most.
                if (can && (best < 0 || Integer.bitCount(set) <= Integer.bitCount(best))) {
                    best = set;
                }
            }
            DUE.is("run " + run + ": stations", x.stations(every, 1, 0, 0, 0), best < 0 ? -1 : Integer.bitCount(best));
            for (int i = 0, place = 0; best > 0 && place < length; place++) {
                if ((best >> place & 1) != 0) {
                    i++;
                    DUE.is("run " + run + ": station " + i, x.stations(every, 1, 0, 0, i), place);
                }
            }
        }
    }
}
