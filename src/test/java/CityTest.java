/** Promises 1 to 5, 36 and 45: what there is in the city, and TODAY. */
public final class CityTest {
    private static final Due DUE = new Due();

    public static void main(String[] args) {
        newObject();
        nodes();
        taps();
        houses();
        days();
        hardness();
        course();
        DUE.end("CityTest");
    }

    private static void newObject() {
        CityCups x = new CityCups();
        for (int what = -2; what <= 30; what++) {
            boolean empty = what >= 0 && what <= 9 || what >= 20 && what <= 22 || what == 24;
            DUE.is("count(" + what + ")", x.count(what), empty ? 0 : -1);
        }
        DUE.is("NONE", CityCups.NONE, -1);
        DUE.is("fault()", x.fault(), -1);
        DUE.is("runs(0, 0, 0)", x.runs(0, 0, 0), -1);
    }

    private static void nodes() {
        CityCups x = new CityCups();
        DUE.is("node(0) of none", x.node(0), -1);
        DUE.is("node(-2)", x.node(-2), -1);
        DUE.is("count(0)", x.count(0), 0);
        DUE.is("node(NONE)", x.node(-1), 0);
        DUE.is("node(1) of itself", x.node(1), -1);
        DUE.is("node(NONE), a second source", x.node(-1), 1);
        for (int i = 2; i < 24; i++) {
            DUE.is("node " + i, x.node(i - 1), i);
        }
        DUE.is("the 25th node", x.node(0), -1);
        DUE.is("the 25th node, a source", x.node(-1), -1);
        DUE.is("count(0)", x.count(0), 24);
        DUE.is("lead(0)", x.lead(0, 0), -1);
        DUE.is("lead(1)", x.lead(1, 0), -1);
        DUE.is("lead(23)", x.lead(23, 0), 2);
    }

    private static void taps() {
        CityCups x = new CityCups();
        DUE.is("tap without a node", x.tap(0, 0, 0, true, 0), -1);
        x.node(-1);
        DUE.is("tap(-1, ..)", x.tap(-1, 0, 0, true, 0), -1);
        DUE.is("tap(1, ..)", x.tap(1, 0, 0, true, 0), -1);
        DUE.is("cell -1", x.tap(0, -1, 0, true, 0), -1);
        DUE.is("cell 256", x.tap(0, 256, 0, true, 0), -1);
        DUE.is("ahead -1", x.tap(0, 0, -1, true, 0), -1);
        DUE.is("ahead 60001", x.tap(0, 0, 60001, true, 0), -1);
        DUE.is("loss -1", x.tap(0, 0, 0, true, -1), -1);
        DUE.is("loss 1000", x.tap(0, 0, 0, true, 1000), -1);
        DUE.is("count(1)", x.count(1), 0);
        DUE.is("the least", x.tap(0, 0, 0, false, 0), 0);
        DUE.is("the most", x.tap(0, 255, 60000, true, 999), 1);
        for (int i = 2; i < 24; i++) {
            DUE.is("tap " + i, x.tap(0, 16 + i, 0, true, 0), i);
        }
        DUE.is("the 25th tap", x.tap(0, 0, 0, true, 0), -1);
        DUE.is("count(1)", x.count(1), 24);
        DUE.is("the tap in the last cell", x.round(2, 0), 60);
    }

    private static void houses() {
        CityCups x = new CityCups();
        DUE.is("house(-1)", x.house(-1), -1);
        DUE.is("house(256)", x.house(256), -1);
        DUE.is("count(2)", x.count(2), 0);
        for (int i = 0; i < 30; i++) {
            DUE.is("house " + i, x.house(i % 2 == 0 ? 0 : 255), i);
        }
        DUE.is("the 31st house", x.house(0), -1);
        DUE.is("count(2)", x.count(2), 30);
        DUE.is("thirsty, without a tap", x.thirsty(30, 0, 0, -1), 30);
        DUE.is("the last thirsty", x.thirsty(30, 0, 0, 29), 29);
    }

    private static void days() {
        CityCups x = new CityCups();
        DUE.is("day(0)", x.day(0), false);
        DUE.is("day(-1)", x.day(-1), false);
        DUE.is("day(1000)", x.day(1000), false);
        DUE.is("count(3)", x.count(3), 0);
        DUE.is("day(1)", x.day(1), true);
        DUE.is("day(1) again", x.day(1), false);
        DUE.is("day(999)", x.day(999), true);
        DUE.is("day(998)", x.day(998), false);
        DUE.is("day(999) again", x.day(999), false);
        DUE.is("count(3)", x.count(3), 999);
    }

    private static void hardness() {
        CityCups x = Due.withTaps(1);
        DUE.is("hard of no tap", x.hard(1, 5), false);
        DUE.is("hard(-1, 5)", x.hard(-1, 5), false);
        DUE.is("hard 0", x.hard(0, 0), false);
        DUE.is("hard 100", x.hard(0, 100), false);
        DUE.is("gone at 50 years", x.gone(0), -1);
        DUE.is("hard 99", x.hard(0, 99), true);
        DUE.is("wears at 99", x.wears(0, 999), 2);
        DUE.is("hard 1", x.hard(0, 1), true);
        DUE.is("gone at 1 year", x.gone(0), 360);
        DUE.is("hard 2", x.hard(0, 2), true);
        DUE.is("gone at 2 years", x.gone(0), 720);
    }

    private static void course() {
        CityCups x = new CityCups();
        DUE.is("course(-1)", x.course(-1), -1);
        DUE.is("course(256)", x.course(256), -1);
        DUE.is("count(22)", x.count(22), 0);
        for (int i = 1; i <= 20; i++) {
            DUE.is("course " + i, x.course(i == 20 ? 255 : 0), i);
        }
        DUE.is("the 21st", x.course(0), -1);
        DUE.is("count(22)", x.count(22), 20);
    }
}
