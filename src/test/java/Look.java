import java.util.LinkedHashMap;
import java.util.Map;

/** All that can be seen of an object, to tell whether a call did nothing; the object is used up by it. */
final class Look {
    private final Map<String, Integer> seen = new LinkedHashMap<>();

    private Look() {
    }

    /** What was seen on the one that differs on the other, or nothing. */
    static String unlike(CityCups x, CityCups y) {
        Map<String, Integer> one = at(x);
        Map<String, Integer> other = at(y);
        StringBuilder unlike = new StringBuilder();
        for (String call : one.keySet()) {
            if (!one.get(call).equals(other.get(call))) {
                unlike.append(" ").append(call).append(": ").append(one.get(call)).append(" and ").append(other.get(call));
            }
        }
        return unlike.toString();
    }

    /** Some 230 calls: questions first, then one telling of each kind, then what an image brings back. */
    static Map<String, Integer> at(CityCups x) {
        Look look = new Look();
        look.counts(x);
        look.water(x);
        look.jobs(x);
        look.taps(x);
        look.days(x);
        look.told(x);
        look.texts(x);
        look.see("image()", x.image());
        look.see("back(0)", x.back(0) ? 1 : 0);
        look.counts(x);
        return look.seen;
    }

    private void see(String call, int answer) {
        seen.put(seen.size() + " " + call, answer);
    }

    private void counts(CityCups x) {
        for (int what = 0; what <= 24; what++) {
            see("count(" + what + ")", x.count(what));
        }
        see("fault()", x.fault());
    }

    private void water(CityCups x) {
        for (int tap = 0; tap < 3; tap++) {
            see("runs of " + tap + " on 3", x.runs(tap, 3, 999));
            see("runs of " + tap, x.runs(tap, 999, 999));
            see("covered " + tap, x.covered(tap, 30, 999, 999));
            see("lead " + tap, x.lead(tap, 999));
            see("drips least " + tap, x.drips(tap, 999, 999, 0));
            see("drips most " + tap, x.drips(tap, 999, 999, 1));
            see("drips on 3 " + tap, x.drips(tap, 3, 999, 1));
            see("mend " + tap, x.mend(9, 999, 999, tap));
        }
        for (int steps = 0; steps <= 30; steps += 5) {
            see("thirsty at " + steps, x.thirsty(steps, 999, 999, -1));
            see("gift at " + steps, x.gift(255, steps, 999, 999));
        }
        see("germs of a day", x.germs(3, 1, 999));
        see("germs", x.germs(40, 60, 999));
    }

    private void jobs(CityCups x) {
        for (int i = 0; i < 3; i++) {
            see("council " + i, x.council(i));
            see("late " + i, x.late(i));
            see("pays " + i, x.pays(1, i));
            see("payers " + i, x.payers(i, 2, 9));
            see("fits " + i, x.fits(i, -1));
            see("could " + i, x.could(i, 1));
            see("remembers " + i, x.remembers(i));
        }
        see("late", x.late(-1));
    }

    private void taps(CityCups x) {
        for (int tap = 0; tap < 3; tap++) {
            see("round " + tap, x.round(1 << tap, 7));
            see("wears " + tap, x.wears(tap, 999));
            see("wears early " + tap, x.wears(tap, 5));
            see("gone " + tap, x.gone(tap));
        }
        for (int way = 0; way < 24; way += 2) {
            see("frost " + way, x.frost(1, way, 1, 0));
            see("frost of 2 " + way, x.frost(2, way, 1, 0));
        }
        see("horse", x.horse(0, 255, 15, 999, 999));
        see("horse near", x.horse(0, 40, 4, 999, 999));
        for (int every = 1; every <= 20; every += 3) {
            see("stations " + every, x.stations(every, 8, 999, 999, 0));
            see("the last station " + every, x.stations(every, 30, 999, 999, 20 / every));
        }
    }

    private void days(CityCups x) {
        for (int what = 0; what < 4; what++) {
            see("beside " + what, x.beside(0, 999, 999, what));
            see("beside on 3 " + what, x.beside(3, 3, 999, what));
            see("hurts " + what, x.hurts(0, 999, 999, what));
            see("filled " + what, x.filled(what - 1, 0, 999, 999));
            see("busiest " + what, x.busiest(0, 999, 999, what));
            see("banned " + what, x.banned(999, 999, what - 1));
        }
        for (int hours = 1; hours <= 24; hours += 5) {
            see("watch " + hours, x.watch(hours, 999, 0));
            see("watch many " + hours, x.watch(hours, 999, 1));
        }
    }

    private void told(CityCups x) {
        see("shut", x.shut(0, 0, true));
        see("level", x.level(0, 50));
        see("bottle", x.bottle(0, 0, true));
        see("test", x.test(0, 0, true));
        see("flow", x.flow(0, 0, 5));
        see("night", x.night(0, 5));
        see("burst", x.burst(0, 0));
        see("damage", x.damage(0, 0, 5));
        see("hurt", x.hurt(0, 0, 5));
        see("fill", x.fill(0, 0, 5));
        see("cup", x.cup(0, 0, true));
        see("plant", x.plant(0, 0, true));
        see("node", x.node(-1));
        see("tap", x.tap(0, 9, 5, true, 5));
        see("house", x.house(9));
        see("course", x.course(9));
        see("job", x.job(0, 1, 5, 5));
    }

    private void texts(CityCups x) {
        see("feed", x.feed(0x63617020, 0x6966206C, 0x6576656C, 0x3C31313B, 0x20202020));
        see("a cap of all", x.cap(Math.max(0, x.count(9))));
        see("fault()", x.fault());
        see("trust", Due.trust(x, "", 7, 9));
        see("donor", Due.donor(x, "ab"));
        see("worn", Due.worn(x, 0, "a."));
        see("could", x.could(0, 0));
    }
}
