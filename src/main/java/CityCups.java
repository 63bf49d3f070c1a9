import java.util.Arrays;

/** Drinking taps of a city: what runs, who is thirsty, who pays; see the document's promises. */
public final class CityCups {
    public static final int NONE = -1;

    private static final int REFUSED = -2;
    private static final int FULL = -3;
    private static final int LAST_DAY = 999;
    private static final int LAST_CELL = 255;
    private static final int FARTHEST = 30;
    private static final int MOST_AHEAD = 60000;
    private static final int MOST_LOSS = 999;
    private static final int MOST_FLOW = 9999;
    private static final int MOST_COST = 9999;
    private static final int MOST_COIN = 99999;
    private static final int MOST_NODES = 24;
    private static final int MOST_TAPS = 24;
    private static final int ALL_TAPS = (1 << MOST_TAPS) - 1;
    private static final int MOST_HOUSES = 30;
    private static final int MOST_PLACES = 20;
    private static final int MOST_JOBS = 40;
    private static final int MOST_TRUSTS = 5;
    private static final int MOST_DONORS = 20;
    private static final int MOST_LETTERS = 12;
    private static final int MOST_BYTES = 500;
    private static final int MOST_STATEMENTS = 24;
    private static final int MOST_OPEN = 9;
    private static final int MOST_DIGITS = 5;
    private static final int MOST_IMAGES = 3;
    private static final int MOST_ASKED = 6;
    private static final int MOST_CANDIDATES = 12;
    private static final int MOST_BOUND_HOUSES = 12;
    private static final int MOST_ROUND = 8;
    private static final int MOST_FROST = 7;
    private static final int HOURS = 24;
    private static final int YEAR = 360;
    private static final int WORKS = 5;
    private static final int STONE = 2;
    private static final int TROUGH = 3;
    private static final int ANY_WORK = 5;
    private static final int LEVEL = 6;
    private static final int AGE = 7;
    private static final int NODE = 8;
    private static final int DAY = 9;
    private static final int COST = 10;
    private static final int FACTS = 11;
    private static final int HARD_AT_FIRST = 50;
    private static final int HARDEST = 99;
    private static final int RUNNING = 0;
    private static final int SHUT = 1;
    private static final int CAPPED = 2;
    private static final int BEYOND_ALL = 1 << 30;

    private final State now;
    private final State[] images;
    private final Reader reader;
    private final Trusts trusts;
    private final Names names;
    private final Walker walker;
    private final Cover cover;
    private final int[] facts;
    private final int[] totals;
    private Law capLaw;
    private int imageCount;
    private int faultPlace;

    public CityCups() {
        now = new State();
        images = new State[MOST_IMAGES];
        reader = new Reader();
        trusts = new Trusts();
        names = new Names();
        walker = new Walker();
        cover = new Cover();
        facts = new int[FACTS];
        totals = new int[MOST_TAPS];
        capLaw = new Law(new int[0], new int[0], new int[0], new int[0]);
        imageCount = 0;
        faultPlace = NONE;
    }

    // ---- the city ----

    public int node(int parent) {
        if (parent != NONE && !isNode(parent)) {
            return NONE;
        }
        return now.city.addNode(parent);
    }

    public int tap(int node, int cell, int ahead, boolean trough, int loss) {
        if (!isNode(node) || !isCell(cell) || !isWithin(ahead, MOST_AHEAD) || !isWithin(loss, MOST_LOSS)) {
            return NONE;
        }
        return now.city.addTap(node, cell, ahead, trough, loss);
    }

    public int house(int cell) {
        return isCell(cell) ? now.city.addHouse(cell) : NONE;
    }

    public int course(int cell) {
        return isCell(cell) ? now.city.addPlace(cell) : NONE;
    }

    public boolean hard(int tap, int v) {
        if (!isTap(tap) || v < 1 || v > HARDEST) {
            return false;
        }
        now.city.hardness[tap] = v;
        return true;
    }

    // ---- what is told of days ----

    public boolean day(int d) {
        if (d <= now.diary.today || d > LAST_DAY) {
            return false;
        }
        now.diary.today = d;
        return true;
    }

    public int shut(int tap, int day, boolean is) {
        return tellOfTap(now.diary.shuts, tap, day, is ? 1 : 0);
    }

    public int level(int day, int high) {
        return isWithin(high, 100) ? tellOfCity(now.diary.levels, day, high) : NONE;
    }

    public int bottle(int tap, int day, boolean germs) {
        return tellOfTap(now.diary.bottles, tap, day, germs ? 1 : 0);
    }

    public int test(int tap, int day, boolean lead) {
        return tellOfTap(now.diary.tests, tap, day, lead ? 1 : 0);
    }

    public int flow(int node, int day, int much) {
        if (!isNode(node) || !isPast(day) || !isWithin(much, MOST_FLOW)) {
            return NONE;
        }
        return now.diary.flows.tell(node, day, much, now.diary.today);
    }

    public boolean error(int v) {
        if (!isWithin(v, 99)) {
            return false;
        }
        now.diary.error = v;
        return true;
    }

    public boolean cold(int hour, int chance) {
        if (!isWithin(hour, HOURS - 1) || !isWithin(chance, 100)) {
            return false;
        }
        now.diary.cold[hour] = chance;
        return true;
    }

    public int night(int day, int chance) {
        return isWithin(chance, 100) ? tellOfCity(now.diary.nights, day, chance) : NONE;
    }

    public int burst(int tap, int day) {
        return tellOfTap(now.diary.bursts, tap, day, 1);
    }

    public int damage(int tap, int day, int hour) {
        return isWithin(hour, HOURS - 1) ? tellOfTap(now.diary.damages, tap, day, hour) : NONE;
    }

    public int hurt(int tap, int day, int coin) {
        return isWithin(coin, 9999) ? tellOfTap(now.diary.hurtings, tap, day, coin) : NONE;
    }

    public int fill(int tap, int day, int bottles) {
        return isWithin(bottles, 9999) ? tellOfTap(now.diary.fillings, tap, day, bottles) : NONE;
    }

    public int cup(int tap, int day, boolean is) {
        return tellOfTap(now.diary.cups, tap, day, is ? 1 : 0);
    }

    public int plant(int tap, int day, boolean is) {
        if (!isTap(tap) || !isIn(now.city.troughs, tap)) {
            return NONE;
        }
        return tellOfTap(now.diary.plantings, tap, day, is ? 1 : 0);
    }

    public boolean ban(int day) {
        if (day != NONE && !isDay(day)) {
            return false;
        }
        now.diary.bannedFrom = day;
        return true;
    }

    // ---- texts ----

    public int feed(int a, int b, int c, int d, int e) {
        if (!reader.hasRoom()) {
            return NONE;
        }
        reader.put(a);
        reader.put(b);
        reader.put(c);
        reader.put(d);
        reader.put(e);
        return reader.size;
    }

    public int cap(int n) {
        if (!reader.has(n)) {
            return REFUSED;
        }
        Law read = reader.readLaw(n, false);
        endText(read == null ? reader.start : NONE);
        if (read == null) {
            return NONE;
        }
        capLaw = read;
        return read.statements();
    }

    public int trust(int n, int taps, int coin) {
        if (!reader.has(n) || !isWithin(taps, ALL_TAPS) || !isWithin(coin, MOST_COIN)) {
            return REFUSED;
        }
        if (trusts.size >= MOST_TRUSTS) {
            return FULL;
        }
        Law read = reader.readLaw(n, true);
        endText(read == null ? reader.start : NONE);
        if (read == null) {
            return NONE;
        }
        now.coin[trusts.size] = coin;
        return trusts.add(read, taps);
    }

    public int donor(int n) {
        if (!reader.has(n)) {
            return REFUSED;
        }
        if (names.donors >= MOST_DONORS) {
            return FULL;
        }
        int wrong = reader.faultOfName(n, false);
        endText(wrong);
        return wrong == NONE ? names.addDonor(reader.tape, n) : NONE;
    }

    public int worn(int tap, int n) {
        if (!reader.has(n) || !isTap(tap)) {
            return REFUSED;
        }
        int wrong = reader.faultOfName(n, true);
        endText(wrong);
        return wrong == NONE ? names.wear(tap, reader.tape, n) : NONE;
    }

    public int fault() {
        return faultPlace;
    }

    // ---- jobs and who pays ----

    public int job(int tap, int work, int cost, int promised) {
        return isJobOf(tap, work, cost) && isDay(promised) ? now.jobs.add(tap, work, cost, promised) : NONE;
    }

    public boolean done(int job, int day) {
        if (!isJob(job) || !isPast(day) || now.jobs.doneOn[job] != NONE) {
            return false;
        }
        now.jobs.doneOn[job] = day;
        return true;
    }

    public int pays(int trust, int job) {
        if (!isWithin(trust, trusts.size - 1) || !isJob(job)) {
            return NONE;
        }
        return isIn(payersOfJob(job), trust) ? 1 : 0;
    }

    public int payers(int tap, int work, int cost) {
        return isJobOf(tap, work, cost) ? payersOf(tap, work, cost) : NONE;
    }

    public int council(int what) {
        if (!isWithin(what, 2)) {
            return NONE;
        }
        deliberate();
        if (what == 2) {
            return trusts.asked;
        }
        return what == 0 ? trusts.best : trusts.bestCode;
    }

    public int settle() {
        deliberate();
        if (trusts.asked == 0) {
            return NONE;
        }
        for (int i = 0; i < trusts.asked; i++) {
            int payer = trusts.payerOf(i);
            if (payer != NONE) {
                now.coin[payer] -= trusts.costs[i];
            }
            now.jobs.paid[trusts.askedJobs[i]] = 1;
        }
        return trusts.best;
    }

    public int late(int job) {
        if (job == NONE) {
            return now.jobs.latenessOfAll(now.diary.today);
        }
        return isJob(job) ? now.jobs.lateness(job, now.diary.today) : REFUSED;
    }

    // ---- what runs and who is thirsty ----

    public int runs(int tap, int day, int known) {
        if (!isTap(tap) || !isDay(day) || !isDay(known)) {
            return NONE;
        }
        if (isShut(tap, day, known)) {
            return SHUT;
        }
        return isCapped(tap, day, known) ? CAPPED : RUNNING;
    }

    public int covered(int house, int steps, int day, int known) {
        if (!isHouse(house) || !isWalk(steps, day, known)) {
            return REFUSED;
        }
        return now.city.nearest(now.city.houseCells[house], steps, uncappedTaps(false, day, known));
    }

    public int thirsty(int steps, int day, int known, int k) {
        return isWalk(steps, day, known) ? pick(thirstyHouses(steps, day, known), k) : NONE;
    }

    public int mend(int steps, int day, int known, int what) {
        if (!isWalk(steps, day, known) || !isWithin(what, 2)) {
            return NONE;
        }
        int candidates = uncappedTaps(true, day, known);
        if (Integer.bitCount(candidates) > MOST_CANDIDATES) {
            return NONE;
        }
        int thirsty = thirstyHouses(steps, day, known);
        cover.prepare(now.city, candidates, thirsty, steps);
        if (what == 2) {
            return Integer.bitCount(thirsty & ~cover.wanted);
        }
        return what == 0 ? cover.fewestTaps() : cover.mostApart();
    }

    public int gift(int cell, int steps, int day, int known) {
        if (!isCell(cell) || !isWalk(steps, day, known)) {
            return NONE;
        }
        return Integer.bitCount(now.city.housesNear(cell, steps, thirstyHouses(steps, day, known)));
    }

    // ---- what is in the water ----

    public int germs(int day, int window, int known) {
        if (!isDay(day) || window < 1 || window > 60 || !isDay(known)) {
            return NONE;
        }
        Ledger bottles = now.diary.bottles;
        int nodes = (1 << now.city.nodes) - 1;
        boolean any = false;
        for (int i = 0; i < bottles.size; i++) {
            if (bottles.counts(i, day - window + 1, day, known)) {
                int above = now.city.aboveTap(bottles.who[i]);
                boolean bad = bottles.what[i] != 0;
                nodes &= bad ? above : ~above;
                any = any || bad;
            }
        }
        return any ? nodes : 0;
    }

    public int lead(int node, int known) {
        if (!isNode(node) || !isIn(now.city.pipes, node) || !isDay(known)) {
            return NONE;
        }
        int clean = cleanPipes(known);
        if (isIn(clean, node)) {
            return 0;
        }
        return isLeadSure(node, now.city.pipes & ~clean, known) ? 1 : 2;
    }

    public int drips(int node, int day, int known, int what) {
        if (!isNode(node) || !isDay(day) || !isDay(known) || !isWithin(what, 1)) {
            return NONE;
        }
        Ledger flows = now.diary.flows;
        int place = flows.latest(node, day, known);
        if (place == NONE) {
            return NONE;
        }
        int error = now.diary.error;
        int rest = what == 0 ? Math.max(0, flows.what[place] - error) : flows.what[place] + error;
        for (int child = node + 1; child < now.city.nodes; child++) {
            if (now.city.parents[child] == node) {
                // The least drips where the most flows on, and the other way round.
                rest -= what == 0 ? mostFlow(child, day, known) : leastFlow(child, day, known);
            }
        }
        return Math.max(0, rest);
    }

    // ---- ways on foot ----

    public int round(int taps, int cell) {
        return areTaps(taps, MOST_ROUND) && isCell(cell) ? walker.shortestRound(now.city, taps, cell) : NONE;
    }

    public int frost(int taps, int cell, int speed, int what) {
        if (!areTaps(taps, MOST_FROST) || !isCell(cell) || speed < 1 || speed > 99) {
            return NONE;
        }
        if (!isWithin(what, Integer.bitCount(taps))) {
            return NONE;
        }
        walker.planShutting(now.city, taps, cell, speed, now.diary.cold);
        return what == 0 ? walker.best : walker.bestOrder[what - 1];
    }

    public int horse(int from, int to, int most, int day, int known) {
        if (!isCell(from) || !isCell(to) || !isWalk(most, day, known)) {
            return NONE;
        }
        if (stepsBetween(from, to) <= most) {
            return 0;
        }
        int unseen = uncappedTaps(false, day, known) & troughsOn(day, known);
        int wave = now.city.tapsNear(from, most, unseen);
        int goal = now.city.tapsNear(to, most, unseen);
        for (int drinks = 1; drinks <= MOST_TAPS && wave != 0; drinks++) {
            if ((wave & goal) != 0) {
                return drinks;
            }
            unseen &= ~wave;
            wave = now.city.tapsNearAny(wave, most, unseen);
        }
        return NONE;
    }

    public int stations(int every, int near, int day, int known, int what) {
        int length = now.city.places;
        if (every < 1 || every > MOST_PLACES || !isWalk(near, day, known) || what < 0 || length == 0) {
            return NONE;
        }
        int allowed = now.city.placesNearAny(uncappedTaps(false, day, known), near);
        int start = 0;
        int many = 0;
        int asked = NONE;
        for (int i = 0; i < MOST_PLACES && start + every <= length; i++) {
            int place = lastIn(allowed, start, start + every - 1);
            if (place == NONE) {
                return NONE;
            }
            many++;
            if (many == what) {
                asked = place;
            }
            start = place + 1;
        }
        return what == 0 ? many : asked;
    }

    // ---- names ----

    public int fits(int tap, int k) {
        return isWorn(tap) ? pick(names.fitting[tap], k) : NONE;
    }

    public int could(int tap, int donor) {
        if (!isWorn(tap) || !isWithin(donor, names.donors - 1)) {
            return NONE;
        }
        return names.someWayHas(tap, donor, now.city.taps) ? 1 : 0;
    }

    public int remembers(int tap) {
        if (!isWorn(tap)) {
            return REFUSED;
        }
        int only = REFUSED;
        for (int donor = 0; donor < names.donors; donor++) {
            if (names.someWayHas(tap, donor, now.city.taps)) {
                if (only != REFUSED) {
                    return NONE;
                }
                only = donor;
            }
        }
        return only;
    }

    // ---- nights, hurts, stones, bottles, cups ----

    public int beside(int from, int to, int known, int what) {
        if (!isSpan(from, to, known) || !isWithin(what, 3)) {
            return NONE;
        }
        if (what == 2) {
            return expectedBursts(from, to, known);
        }
        Ledger bursts = now.diary.bursts;
        int many = 0;
        int loss = 0;
        int though = 0;
        for (int i = 0; i < bursts.size; i++) {
            if (bursts.counts(i, from, to, known)) {
                int tap = bursts.who[i];
                many++;
                loss += now.city.losses[tap];
                though |= isShut(tap, bursts.on[i], known) ? 1 << tap : 0;
            }
        }
        if (what == 3) {
            return though;
        }
        return what == 0 ? many : loss;
    }

    public int hurts(int from, int to, int known, int what) {
        if (!isSpan(from, to, known) || !isWithin(what, 2)) {
            return NONE;
        }
        Ledger hurtings = now.diary.hurtings;
        int many = 0;
        int coin = 0;
        int ice = 0;
        for (int i = 0; i < hurtings.size; i++) {
            if (hurtings.counts(i, from, to, known)) {
                many++;
                coin += hurtings.what[i];
                ice += isByIce(hurtings.who[i], hurtings.on[i], known) ? 1 : 0;
            }
        }
        if (what == 2) {
            return ice;
        }
        return what == 0 ? many : coin;
    }

    public int wears(int tap, int day) {
        if (!isTap(tap) || !isDay(day)) {
            return NONE;
        }
        int renewed = now.jobs.lastStone(tap, day);
        int days = renewed == NONE ? day + now.city.aheads[tap] : day - renewed;
        return Math.min(100, days * 100 / stoneDays(tap));
    }

    public int gone(int tap) {
        if (!isTap(tap)) {
            return NONE;
        }
        int end = stoneDays(tap);
        int since = -now.city.aheads[tap];
        for (int i = 0; i <= MOST_JOBS; i++) {
            int next = now.jobs.nextStone(tap, since);
            if (next == NONE || next > Math.max(0, since + end)) {
                break;
            }
            since = next;
        }
        int first = Math.max(0, since + end);
        return first <= LAST_DAY ? first : NONE;
    }

    public int watch(int hours, int known, int what) {
        if (hours < 1 || hours > HOURS || !isDay(known) || !isWithin(what, 1)) {
            return NONE;
        }
        int first = 0;
        int most = 0;
        for (int hour = 0; hour < HOURS; hour++) {
            int many = damagesSeen(hour, hours, known);
            if (many > most) {
                most = many;
                first = hour;
            }
        }
        return what == 0 ? first : most;
    }

    public int filled(int tap, int from, int to, int known) {
        if ((tap != NONE && !isTap(tap)) || !isSpan(from, to, known)) {
            return NONE;
        }
        sumFillings(from, to, known);
        if (tap != NONE) {
            return totals[tap];
        }
        int sum = 0;
        for (int t = 0; t < now.city.taps; t++) {
            sum += totals[t];
        }
        return sum;
    }

    public int busiest(int from, int to, int known, int k) {
        if (!isSpan(from, to, known) || !isTap(k)) {
            return NONE;
        }
        sumFillings(from, to, known);
        for (int t = 0; t < now.city.taps; t++) {
            if (tapsAheadOf(t) == k) {
                return t;
            }
        }
        return NONE;
    }

    public int banned(int day, int known, int k) {
        if (!isDay(day) || !isDay(known)) {
            return NONE;
        }
        int from = now.diary.bannedFrom;
        boolean holds = from != NONE && day >= from;
        return pick(holds ? now.diary.cups.thoseSo(day, known) : 0, k);
    }

    // ---- images and counts ----

    public int image() {
        if (imageCount >= MOST_IMAGES) {
            return NONE;
        }
        State kept = new State();
        kept.become(now, trusts.size);
        kept.trustsThen = trusts.size;
        images[imageCount] = kept;
        imageCount++;
        return imageCount - 1;
    }

    public boolean back(int image) {
        if (!isWithin(image, imageCount - 1) || images[image] == null) {
            return false;
        }
        now.become(images[image], images[image].trustsThen);
        return true;
    }

    public int count(int what) {
        if (what >= 10 && what < 10 + trusts.size) {
            return now.coin[what - 10];
        }
        switch (what) {
            case 0: return now.city.nodes;
            case 1: return now.city.taps;
            case 2: return now.city.houses;
            case 3: return now.diary.today;
            case 4: return trusts.size;
            case 5: return names.donors;
            case 6: return now.jobs.size;
            case 7: return now.jobs.howManyDone();
            case 8: return now.jobs.howManyPaid();
            case 9: return reader.size;
            case 20: return imageCount;
            case 21: return capLaw.statements();
            case 22: return now.city.places;
            case 23: return now.diary.bannedFrom;
            case 24: return names.wornAmong(now.city.taps);
            default: return NONE;
        }
    }

    // ---- what an argument may be ----

    private static boolean isWithin(int value, int most) {
        return value >= 0 && value <= most;
    }

    private static boolean isDay(int day) {
        return isWithin(day, LAST_DAY);
    }

    private static boolean isCell(int cell) {
        return isWithin(cell, LAST_CELL);
    }

    private static boolean isWalk(int steps, int day, int known) {
        return isWithin(steps, FARTHEST) && isDay(day) && isDay(known);
    }

    private static boolean isSpan(int from, int to, int known) {
        return isDay(from) && isDay(to) && from <= to && isDay(known);
    }

    private boolean isPast(int day) {
        return isWithin(day, now.diary.today);
    }

    private boolean isNode(int node) {
        return isWithin(node, now.city.nodes - 1);
    }

    private boolean isTap(int tap) {
        return isWithin(tap, now.city.taps - 1);
    }

    private boolean isHouse(int house) {
        return isWithin(house, now.city.houses - 1);
    }

    private boolean isJob(int job) {
        return isWithin(job, now.jobs.size - 1);
    }

    private boolean isJobOf(int tap, int work, int cost) {
        return isTap(tap) && isWithin(work, WORKS - 1) && cost >= 1 && cost <= MOST_COST;
    }

    private boolean isWorn(int tap) {
        return isTap(tap) && names.wornLengths[tap] > 0;
    }

    private boolean areTaps(int taps, int most) {
        return taps > 0 && taps <= (1 << now.city.taps) - 1 && Integer.bitCount(taps) <= most;
    }

    // ---- bits and steps ----

    private static boolean isIn(int bits, int place) {
        return ((bits >> place) & 1) != 0;
    }

    private static int pick(int bits, int k) {
        if (k == NONE) {
            return Integer.bitCount(bits);
        }
        int behind = 0;
        for (int place = 0; place < 31; place++) {
            if (isIn(bits, place)) {
                if (behind == k) {
                    return place;
                }
                behind++;
            }
        }
        return NONE;
    }

    private static int lastIn(int bits, int from, int to) {
        for (int place = to; place >= from; place--) {
            if (isIn(bits, place)) {
                return place;
            }
        }
        return NONE;
    }

    private static int stepsBetween(int a, int b) {
        return Math.abs((a & 15) - (b & 15)) + Math.abs((a >> 4) - (b >> 4));
    }

    // ---- parts of the answers ----

    private int tellOfTap(Ledger ledger, int tap, int day, int value) {
        return isTap(tap) && isPast(day) ? ledger.tell(tap, day, value, now.diary.today) : NONE;
    }

    private int tellOfCity(Ledger ledger, int day, int value) {
        return isPast(day) ? ledger.tell(0, day, value, now.diary.today) : NONE;
    }

    private void endText(int wrong) {
        reader.size = 0;
        faultPlace = wrong;
    }

    private boolean isShut(int tap, int day, int known) {
        return now.diary.shuts.isSo(tap, day, known);
    }

    private int troughsOn(int day, int known) {
        return now.city.troughs & ~now.diary.plantings.thoseSo(day, known);
    }

    private void gatherFacts(int tap, int day, int known, int cost) {
        int place = now.diary.levels.latest(0, day, known);
        boolean trough = isIn(now.city.troughs, tap) && !now.diary.plantings.isSo(tap, day, known);
        facts[LEVEL] = place == NONE ? 100 : now.diary.levels.what[place];
        facts[AGE] = (day + now.city.aheads[tap]) / YEAR;
        facts[NODE] = now.city.tapNodes[tap];
        facts[TROUGH] = trough ? 1 : 0;
        facts[DAY] = day;
        facts[COST] = cost;
    }

    private boolean isCapped(int tap, int day, int known) {
        if (capLaw.statements() == 0) {
            return false;
        }
        gatherFacts(tap, day, known, 0);
        return capLaw.says(ANY_WORK, facts);
    }

    /** Taps that are shut (or aren't) and that the cap doesn't keep from running. */
    private int uncappedTaps(boolean shut, int day, int known) {
        int shutTaps = now.diary.shuts.thoseSo(day, known);
        int bits = 0;
        for (int tap = 0; tap < now.city.taps; tap++) {
            if (isIn(shutTaps, tap) == shut && !isCapped(tap, day, known)) {
                bits |= 1 << tap;
            }
        }
        return bits;
    }

    private int thirstyHouses(int steps, int day, int known) {
        int running = uncappedTaps(false, day, known);
        int bits = 0;
        for (int house = 0; house < now.city.houses; house++) {
            if (now.city.tapsNear(now.city.houseCells[house], steps, running) == 0) {
                bits |= 1 << house;
            }
        }
        return bits;
    }

    private int cleanPipes(int known) {
        Ledger tests = now.diary.tests;
        int clean = 0;
        for (int i = 0; i < tests.size; i++) {
            if (tests.since[i] <= known && tests.what[i] == 0) {
                clean |= now.city.aboveTap(tests.who[i]);
            }
        }
        return clean;
    }

    private boolean isLeadSure(int node, int suspects, int known) {
        Ledger tests = now.diary.tests;
        for (int i = 0; i < tests.size; i++) {
            if (tests.since[i] <= known && tests.what[i] != 0) {
                if ((now.city.aboveTap(tests.who[i]) & suspects) == 1 << node) {
                    return true;
                }
            }
        }
        return false;
    }

    private int leastFlow(int node, int day, int known) {
        int place = now.diary.flows.latest(node, day, known);
        return place == NONE ? 0 : Math.max(0, now.diary.flows.what[place] - now.diary.error);
    }

    private int mostFlow(int node, int day, int known) {
        int place = now.diary.flows.latest(node, day, known);
        return place == NONE ? MOST_FLOW : now.diary.flows.what[place] + now.diary.error;
    }

    private int payersOf(int tap, int work, int cost) {
        int today = now.diary.today;
        gatherFacts(tap, today, today, cost);
        int bits = 0;
        for (int trust = 0; trust < trusts.size; trust++) {
            Law text = trusts.laws[trust];
            if (text != null && isIn(trusts.taps[trust], tap) && text.says(work, facts)) {
                bits |= 1 << trust;
            }
        }
        return bits;
    }

    private int payersOfJob(int job) {
        return payersOf(now.jobs.taps[job], now.jobs.works[job], now.jobs.costs[job]);
    }

    private void deliberate() {
        trusts.asked = 0;
        for (int job = 0; job < now.jobs.size && trusts.asked < MOST_ASKED; job++) {
            if (now.jobs.doneOn[job] == NONE && now.jobs.paid[job] == 0) {
                trusts.ask(job, now.jobs.costs[job], payersOfJob(job));
            }
        }
        trusts.share(now.coin);
    }

    private int expectedBursts(int from, int to, int known) {
        Ledger nights = now.diary.nights;
        int sum = 0;
        for (int i = 0; i < nights.size; i++) {
            int day = nights.on[i];
            if (nights.counts(i, from, to, known) && nights.latest(0, day, known) == i) {
                int shut = Integer.bitCount(now.diary.shuts.thoseSo(day, known));
                sum += nights.what[i] * (now.city.taps - shut);
            }
        }
        return sum;
    }

    private boolean isByIce(int tap, int day, int known) {
        Ledger nights = now.diary.nights;
        int place = nights.latest(0, day, known);
        return place != NONE && nights.on[place] == day && nights.what[place] > 0 && !isShut(tap, day, known);
    }

    private int stoneDays(int tap) {
        return YEAR * Math.max(1, now.city.hardness[tap]);
    }

    private int damagesSeen(int hour, int hours, int known) {
        Ledger damages = now.diary.damages;
        int many = 0;
        for (int i = 0; i < damages.size; i++) {
            if (damages.since[i] <= known && Math.floorMod(damages.what[i] - hour, HOURS) < hours) {
                many++;
            }
        }
        return many;
    }

    private void sumFillings(int from, int to, int known) {
        Ledger fillings = now.diary.fillings;
        Arrays.fill(totals, 0);
        for (int i = 0; i < fillings.size; i++) {
            if (fillings.counts(i, from, to, known)) {
                totals[fillings.who[i]] += fillings.what[i];
            }
        }
    }

    private int tapsAheadOf(int tap) {
        int ahead = 0;
        for (int t = 0; t < now.city.taps; t++) {
            if (totals[t] > totals[tap] || (totals[t] == totals[tap] && t < tap)) {
                ahead++;
            }
        }
        return ahead;
    }

    /** All that an image keeps. */
    private static final class State {
        final City city = new City();
        final Diary diary = new Diary();
        final Jobs jobs = new Jobs();
        final int[] coin = new int[MOST_TRUSTS];
        int trustsThen;

        /** Trusts stay with their texts, so only the coin of those that the other state knows is taken. */
        void become(State other, int trustCount) {
            city.become(other.city);
            diary.become(other.diary);
            jobs.become(other.jobs);
            for (int t = 0; t < trustCount && t < MOST_TRUSTS; t++) {
                coin[t] = other.coin[t];
            }
        }
    }

    /** Nodes, taps, houses and the course. */
    private static final class City {
        int nodes;
        int taps;
        int houses;
        int places;
        int pipes;
        int troughs;
        final int[] parents = new int[MOST_NODES];
        final int[] above = new int[MOST_NODES];
        final int[] tapNodes = new int[MOST_TAPS];
        final int[] tapCells = new int[MOST_TAPS];
        final int[] aheads = new int[MOST_TAPS];
        final int[] losses = new int[MOST_TAPS];
        final int[] hardness = new int[MOST_TAPS];
        final int[] houseCells = new int[MOST_HOUSES];
        final int[] placeCells = new int[MOST_PLACES];

        int addNode(int parent) {
            if (nodes >= MOST_NODES) {
                return NONE;
            }
            parents[nodes] = parent;
            // Kept as bits, so that "below" is one look and needs no walk up the pipes.
            above[nodes] = 1 << nodes;
            if (parent != NONE) {
                above[nodes] |= above[parent];
                pipes |= 1 << nodes;
            }
            nodes++;
            return nodes - 1;
        }

        int addTap(int node, int cell, int ahead, boolean trough, int loss) {
            if (taps >= MOST_TAPS) {
                return NONE;
            }
            tapNodes[taps] = node;
            tapCells[taps] = cell;
            aheads[taps] = ahead;
            losses[taps] = loss;
            hardness[taps] = HARD_AT_FIRST;
            troughs |= trough ? 1 << taps : 0;
            taps++;
            return taps - 1;
        }

        int addHouse(int cell) {
            if (houses >= MOST_HOUSES) {
                return NONE;
            }
            houseCells[houses] = cell;
            houses++;
            return houses - 1;
        }

        int addPlace(int cell) {
            if (places >= MOST_PLACES) {
                return NONE;
            }
            placeCells[places] = cell;
            places++;
            return places;
        }

        int aboveTap(int tap) {
            return above[tapNodes[tap]];
        }

        int nearest(int cell, int steps, int among) {
            int best = NONE;
            int fewest = steps + 1;
            for (int tap = 0; tap < taps; tap++) {
                if (isIn(among, tap) && stepsBetween(cell, tapCells[tap]) < fewest) {
                    fewest = stepsBetween(cell, tapCells[tap]);
                    best = tap;
                }
            }
            return best;
        }

        int tapsNear(int cell, int steps, int among) {
            int bits = 0;
            for (int tap = 0; tap < taps; tap++) {
                if (isIn(among, tap) && stepsBetween(cell, tapCells[tap]) <= steps) {
                    bits |= 1 << tap;
                }
            }
            return bits;
        }

        int tapsNearAny(int from, int steps, int among) {
            int bits = 0;
            for (int tap = 0; tap < taps; tap++) {
                if (isIn(from, tap)) {
                    bits |= tapsNear(tapCells[tap], steps, among);
                }
            }
            return bits;
        }

        int housesNear(int cell, int steps, int among) {
            int bits = 0;
            for (int house = 0; house < houses; house++) {
                if (isIn(among, house) && stepsBetween(cell, houseCells[house]) <= steps) {
                    bits |= 1 << house;
                }
            }
            return bits;
        }

        int placesNearAny(int among, int steps) {
            int bits = 0;
            for (int place = 0; place < places; place++) {
                if (tapsNear(placeCells[place], steps, among) != 0) {
                    bits |= 1 << place;
                }
            }
            return bits;
        }

        void become(City other) {
            nodes = other.nodes;
            taps = other.taps;
            houses = other.houses;
            places = other.places;
            pipes = other.pipes;
            troughs = other.troughs;
            System.arraycopy(other.parents, 0, parents, 0, MOST_NODES);
            System.arraycopy(other.above, 0, above, 0, MOST_NODES);
            System.arraycopy(other.tapNodes, 0, tapNodes, 0, MOST_TAPS);
            System.arraycopy(other.tapCells, 0, tapCells, 0, MOST_TAPS);
            System.arraycopy(other.aheads, 0, aheads, 0, MOST_TAPS);
            System.arraycopy(other.losses, 0, losses, 0, MOST_TAPS);
            System.arraycopy(other.hardness, 0, hardness, 0, MOST_TAPS);
            System.arraycopy(other.houseCells, 0, houseCells, 0, MOST_HOUSES);
            System.arraycopy(other.placeCells, 0, placeCells, 0, MOST_PLACES);
        }
    }

    /** What was told of one kind; kept by days, of one day as told, so that a later row outdoes an earlier one. */
    private static final class Ledger {
        final int[] who;
        final int[] on;
        final int[] what;
        final int[] since;
        int size;

        Ledger(int most) {
            int rows = Math.max(0, most);
            who = new int[rows];
            on = new int[rows];
            what = new int[rows];
            since = new int[rows];
        }

        int tell(int subject, int day, int value, int today) {
            if (size >= who.length) {
                return NONE;
            }
            int row = size;
            for (; row > 0 && on[row - 1] > day; row--) {
                who[row] = who[row - 1];
                on[row] = on[row - 1];
                what[row] = what[row - 1];
                since[row] = since[row - 1];
            }
            who[row] = subject;
            on[row] = day;
            what[row] = value;
            since[row] = today;
            size++;
            return size;
        }

        boolean counts(int row, int from, int to, int known) {
            return on[row] >= from && on[row] <= to && since[row] <= known;
        }

        int latest(int subject, int day, int known) {
            for (int row = size - 1; row >= 0; row--) {
                if (on[row] <= day && since[row] <= known && who[row] == subject) {
                    return row;
                }
            }
            return NONE;
        }

        boolean isSo(int subject, int day, int known) {
            int row = latest(subject, day, known);
            return row != NONE && what[row] != 0;
        }

        int thoseSo(int day, int known) {
            int bits = 0;
            for (int row = 0; row < size && on[row] <= day; row++) {
                if (since[row] <= known) {
                    int bit = 1 << who[row];
                    bits = what[row] != 0 ? bits | bit : bits & ~bit;
                }
            }
            return bits;
        }

        void become(Ledger other) {
            size = Math.min(other.size, who.length);
            System.arraycopy(other.who, 0, who, 0, size);
            System.arraycopy(other.on, 0, on, 0, size);
            System.arraycopy(other.what, 0, what, 0, size);
            System.arraycopy(other.since, 0, since, 0, size);
        }
    }

    /** All ledgers, and what holds from now on. */
    private static final class Diary {
        final Ledger shuts = new Ledger(80);
        final Ledger levels = new Ledger(40);
        final Ledger bottles = new Ledger(60);
        final Ledger tests = new Ledger(40);
        final Ledger flows = new Ledger(60);
        final Ledger nights = new Ledger(40);
        final Ledger bursts = new Ledger(40);
        final Ledger damages = new Ledger(40);
        final Ledger hurtings = new Ledger(40);
        final Ledger fillings = new Ledger(80);
        final Ledger cups = new Ledger(40);
        final Ledger plantings = new Ledger(40);
        final int[] cold = new int[HOURS];
        int today = 0;
        int error = 0;
        int bannedFrom = NONE;

        void become(Diary other) {
            shuts.become(other.shuts);
            levels.become(other.levels);
            bottles.become(other.bottles);
            tests.become(other.tests);
            flows.become(other.flows);
            nights.become(other.nights);
            bursts.become(other.bursts);
            damages.become(other.damages);
            hurtings.become(other.hurtings);
            fillings.become(other.fillings);
            cups.become(other.cups);
            plantings.become(other.plantings);
            System.arraycopy(other.cold, 0, cold, 0, HOURS);
            today = other.today;
            error = other.error;
            bannedFrom = other.bannedFrom;
        }
    }

    /** Jobs, when they were done and whether they are paid. */
    private static final class Jobs {
        int size;
        final int[] taps = new int[MOST_JOBS];
        final int[] works = new int[MOST_JOBS];
        final int[] costs = new int[MOST_JOBS];
        final int[] promises = new int[MOST_JOBS];
        final int[] doneOn = new int[MOST_JOBS];
        final int[] paid = new int[MOST_JOBS];

        int add(int tap, int work, int cost, int promised) {
            if (size >= MOST_JOBS) {
                return NONE;
            }
            taps[size] = tap;
            works[size] = work;
            costs[size] = cost;
            promises[size] = promised;
            doneOn[size] = NONE;
            paid[size] = 0;
            size++;
            return size - 1;
        }

        int lateness(int job, int today) {
            int end = doneOn[job] == NONE ? today : doneOn[job];
            return Math.max(0, end - promises[job]);
        }

        int latenessOfAll(int today) {
            int sum = 0;
            for (int job = 0; job < size; job++) {
                sum += lateness(job, today);
            }
            return sum;
        }

        int howManyDone() {
            int many = 0;
            for (int job = 0; job < size; job++) {
                many += doneOn[job] == NONE ? 0 : 1;
            }
            return many;
        }

        int howManyPaid() {
            int many = 0;
            for (int job = 0; job < size; job++) {
                many += paid[job];
            }
            return many;
        }

        private boolean isStoneDone(int job, int tap) {
            return taps[job] == tap && works[job] == STONE && doneOn[job] != NONE;
        }

        int lastStone(int tap, int day) {
            int last = NONE;
            for (int job = 0; job < size; job++) {
                if (isStoneDone(job, tap) && doneOn[job] <= day) {
                    last = Math.max(last, doneOn[job]);
                }
            }
            return last;
        }

        int nextStone(int tap, int after) {
            int next = NONE;
            for (int job = 0; job < size; job++) {
                if (isStoneDone(job, tap) && doneOn[job] > after) {
                    next = next == NONE ? doneOn[job] : Math.min(next, doneOn[job]);
                }
            }
            return next;
        }

        void become(Jobs other) {
            size = other.size;
            System.arraycopy(other.taps, 0, taps, 0, MOST_JOBS);
            System.arraycopy(other.works, 0, works, 0, MOST_JOBS);
            System.arraycopy(other.costs, 0, costs, 0, MOST_JOBS);
            System.arraycopy(other.promises, 0, promises, 0, MOST_JOBS);
            System.arraycopy(other.doneOn, 0, doneOn, 0, MOST_JOBS);
            System.arraycopy(other.paid, 0, paid, 0, MOST_JOBS);
        }
    }

    /** A text that was read: statements, each with a condition behind-to-front ready for a stack of bits. */
    private static final class Law {
        static final int NOT = -1;
        static final int AND = -2;
        static final int OR = -3;
        static final int NUMBERS = 100000;
        static final int SIGNS = 3;

        private final int[] verdicts;
        private final int[] works;
        private final int[] ends;
        private final int[] code;

        Law(int[] verdicts, int[] works, int[] ends, int[] code) {
            this.verdicts = verdicts;
            this.works = works;
            this.ends = ends;
            this.code = code;
        }

        static int comparison(int word, int sign, int number) {
            return (word * SIGNS + sign) * NUMBERS + number;
        }

        int statements() {
            return verdicts.length;
        }

        boolean says(int work, int[] facts) {
            int from = 0;
            for (int i = 0; i < verdicts.length && i < works.length && i < ends.length; i++) {
                boolean meant = works[i] == ANY_WORK || works[i] == work;
                if (meant && holds(from, ends[i], facts)) {
                    return verdicts[i] == 1;
                }
                from = ends[i];
            }
            return false;
        }

        /** At most two wait at each of the ten levels, so the bits of an int are stack enough. */
        private boolean holds(int from, int to, int[] facts) {
            int stack = 1;
            for (int i = from; i < to && i < code.length; i++) {
                int top = stack & 1;
                switch (code[i]) {
                    case NOT:
                        stack ^= 1;
                        break;
                    case AND:
                        stack >>= 1;
                        stack &= ~1 | top;
                        break;
                    case OR:
                        stack >>= 1;
                        stack |= top;
                        break;
                    default:
                        stack = (stack << 1) | (compares(code[i], facts) ? 1 : 0);
                        break;
                }
            }
            return (stack & 1) != 0;
        }

        private static boolean compares(int comparison, int[] facts) {
            int number = comparison % NUMBERS;
            int sign = comparison / NUMBERS % SIGNS;
            int word = comparison / NUMBERS / SIGNS;
            if (word < 0 || word >= facts.length) {
                return false;
            }
            if (sign == 0) {
                return facts[word] < number;
            }
            return sign == 1 ? facts[word] > number : facts[word] == number;
        }
    }

    /** The tape, and how its bytes are read as texts; the fault's place is always where the token at hand begins. */
    private static final class Reader {
        /** A word's symbol is its place among these; works come first, so that the symbol is the work's number. */
        private static final String WORDS =
                "tap pipe stone trough name any level age node day cost if or and not cap spare pay refuse ";
        private static final int IF = 11;
        private static final int OR = 12;
        private static final int AND = 13;
        private static final int NOT = 14;
        private static final int CAP = 15;
        private static final int SPARE = 16;
        private static final int PAY = 17;
        private static final int REFUSE = 18;
        private static final int UNKNOWN = 19;
        private static final int NUMBER = 20;
        private static final int END = 21;
        private static final int SIGN = 100;

        final int[] tape = new int[MOST_BYTES];
        int size;
        int start;
        private int symbol;
        private int place;
        private int tokens;
        private final int[] starts = new int[MOST_BYTES + 1];
        private final int[] lengths = new int[MOST_BYTES + 1];
        private final int[] symbols = new int[MOST_BYTES + 1];
        private int codeSize;
        private final int[] verdicts = new int[MOST_STATEMENTS];
        private final int[] works = new int[MOST_STATEMENTS];
        private final int[] ends = new int[MOST_STATEMENTS];
        private final int[] code = new int[MOST_BYTES];

        boolean hasRoom() {
            return size + 20 <= MOST_BYTES;
        }

        boolean has(int n) {
            return n >= 0 && n <= size;
        }

        void put(int four) {
            for (int shift = 24; shift >= 0 && size < MOST_BYTES; shift -= 8) {
                tape[size] = (four >>> shift) & 255;
                size++;
            }
        }

        int faultOfName(int n, boolean dots) {
            for (int i = 0; i < n && i < MOST_LETTERS; i++) {
                if (!isLetter(tape[i]) && !(dots && tape[i] == '.')) {
                    return i;
                }
            }
            if (n > MOST_LETTERS) {
                return MOST_LETTERS;
            }
            return n == 0 ? 0 : NONE;
        }

        /** The text's law, or null with the fault's place in start. */
        Law readLaw(int n, boolean ofTrust) {
            cut(n);
            codeSize = 0;
            place = NONE;
            readToken();
            int statements = 0;
            for (int i = 0; i <= MOST_STATEMENTS && symbol != END; i++) {
                if (i == MOST_STATEMENTS || !readStatement(i, ofTrust)) {
                    return null;
                }
                statements = i + 1;
            }
            return new Law(Arrays.copyOf(verdicts, statements), Arrays.copyOf(works, statements),
                    Arrays.copyOf(ends, statements), Arrays.copyOf(code, codeSize));
        }

        private boolean readStatement(int statement, boolean ofTrust) {
            boolean holds = symbol == (ofTrust ? PAY : CAP);
            if (!holds && symbol != (ofTrust ? REFUSE : SPARE)) {
                return false;
            }
            verdicts[statement] = holds ? 1 : 0;
            works[statement] = ANY_WORK;
            readToken();
            if (ofTrust) {
                if (symbol > ANY_WORK) {
                    return false;
                }
                works[statement] = symbol;
                readToken();
            }
            if (symbol == IF) {
                readToken();
                if (!readAny(0)) {
                    return false;
                }
            }
            ends[statement] = codeSize;
            if (!isSign(';')) {
                return false;
            }
            readToken();
            return true;
        }

        private boolean readAny(int open) {
            if (!readAll(open)) {
                return false;
            }
            for (int i = 0; i < MOST_BYTES && symbol == OR; i++) {
                readToken();
                if (!readAll(open)) {
                    return false;
                }
                emit(Law.OR);
            }
            return true;
        }

        private boolean readAll(int open) {
            if (!readOne(open)) {
                return false;
            }
            for (int i = 0; i < MOST_BYTES && symbol == AND; i++) {
                readToken();
                if (!readOne(open)) {
                    return false;
                }
                emit(Law.AND);
            }
            return true;
        }

        private boolean readOne(int open) {
            boolean not = symbol == NOT;
            if (!not && !isSign('(')) {
                return readComparison();
            }
            if (open >= MOST_OPEN) {
                return false;
            }
            readToken();
            if (not) {
                if (!readOne(open + 1)) {
                    return false;
                }
                emit(Law.NOT);
                return true;
            }
            if (!readAny(open + 1) || !isSign(')')) {
                return false;
            }
            readToken();
            return true;
        }

        private boolean readComparison() {
            int word = symbol;
            if (word != TROUGH && (word < LEVEL || word > COST)) {
                return false;
            }
            readToken();
            int sign = isSign('<') ? 0 : isSign('>') ? 1 : isSign('=') ? 2 : NONE;
            if (sign == NONE) {
                return false;
            }
            readToken();
            if (symbol != NUMBER || lengths[place] > MOST_DIGITS) {
                return false;
            }
            emit(Law.comparison(word, sign, numberAtHand()));
            readToken();
            return true;
        }

        private void emit(int step) {
            if (codeSize < code.length) {
                code[codeSize] = step;
                codeSize++;
            }
        }

        private int numberAtHand() {
            int number = 0;
            for (int i = 0; i < lengths[place] && start + i < MOST_BYTES; i++) {
                number = number * 10 + tape[start + i] - '0';
            }
            return number;
        }

        private boolean isSign(int sign) {
            return symbol == SIGN + sign;
        }

        private void readToken() {
            if (place < tokens) {
                place++;
            }
            start = starts[place];
            symbol = symbols[place];
        }

        /** All tokens ahead of the reading: what they are doesn't hang on where they stand. */
        private void cut(int n) {
            tokens = 0;
            boolean wasWord = false;
            boolean wasNumber = false;
            for (int i = 0; i < n && i < MOST_BYTES; i++) {
                boolean isWord = isLetter(tape[i]);
                boolean isNumber = isDigit(tape[i]);
                if (tokens > 0 && ((isWord && wasWord) || (isNumber && wasNumber))) {
                    lengths[tokens - 1]++;
                } else if (tape[i] != ' ' && tape[i] != '\n') {
                    starts[tokens] = i;
                    lengths[tokens] = 1;
                    tokens++;
                }
                wasWord = isWord;
                wasNumber = isNumber;
            }
            for (int token = 0; token < tokens; token++) {
                symbols[token] = symbolOf(starts[token], lengths[token]);
            }
            starts[tokens] = n;
            lengths[tokens] = 0;
            symbols[tokens] = END;
        }

        private int symbolOf(int from, int length) {
            if (isLetter(tape[from])) {
                return wordOf(from, length);
            }
            return isDigit(tape[from]) ? NUMBER : SIGN + tape[from];
        }

        private int wordOf(int from, int length) {
            int word = 0;
            int behind = 0;
            boolean alike = true;
            for (int i = 0; i < WORDS.length(); i++) {
                if (WORDS.charAt(i) != ' ') {
                    alike = alike && behind < length && tape[from + behind] == WORDS.charAt(i);
                    behind++;
                } else {
                    if (alike && behind == length) {
                        return word;
                    }
                    word++;
                    behind = 0;
                    alike = true;
                }
            }
            return UNKNOWN;
        }

        private static boolean isLetter(int sign) {
            return sign >= 'a' && sign <= 'z';
        }

        private static boolean isDigit(int sign) {
            return sign >= '0' && sign <= '9';
        }
    }

    /** Trusts with their texts, and how they share the costs with the council. */
    private static final class Trusts {
        private static final int[] POWERS = {1, 6, 36, 216, 1296, 7776};

        int size;
        final int[] taps = new int[MOST_TRUSTS];
        final Law[] laws = new Law[MOST_TRUSTS];
        int asked;
        final int[] askedJobs = new int[MOST_ASKED];
        final int[] costs = new int[MOST_ASKED];
        private final int[] payers = new int[MOST_ASKED];
        private final int[] left = new int[MOST_TRUSTS];
        int best;
        int bestCode;

        int add(Law law, int forTaps) {
            if (size >= MOST_TRUSTS) {
                return NONE;
            }
            laws[size] = law;
            taps[size] = forTaps;
            size++;
            return size - 1;
        }

        void ask(int job, int cost, int mayPay) {
            if (asked < MOST_ASKED) {
                askedJobs[asked] = job;
                costs[asked] = cost;
                payers[asked] = mayPay;
                asked++;
            }
        }

        void share(int[] coin) {
            System.arraycopy(coin, 0, left, 0, MOST_TRUSTS);
            best = BEYOND_ALL;
            bestCode = 0;
            decide(asked - 1, 0, 0);
        }

        /** Goes through the codes from the least on, so the first with the least sum is the one asked for. */
        private void decide(int place, int sum, int code) {
            if (sum >= best) {
                return;
            }
            if (place < 0) {
                best = sum;
                bestCode = code;
                return;
            }
            int cost = costs[place];
            decide(place - 1, sum + cost, code);
            for (int trust = 0; trust < size; trust++) {
                if (isIn(payers[place], trust) && left[trust] >= cost) {
                    left[trust] -= cost;
                    decide(place - 1, sum, code + (trust + 1) * POWERS[place]);
                    left[trust] += cost;
                }
            }
        }

        int payerOf(int place) {
            return bestCode / POWERS[place] % 6 - 1;
        }
    }

    /** Donors, worn names, and the ways to give each worn name a donor of its own. */
    private static final class Names {
        int donors;
        final int[] wornLengths = new int[MOST_TAPS];
        final int[] fitting = new int[MOST_TAPS];
        private final int[] wornSigns = new int[MOST_TAPS * MOST_LETTERS];
        private final int[] donorLengths = new int[MOST_DONORS];
        private final int[] donorSigns = new int[MOST_DONORS * MOST_LETTERS];
        private final int[] tapOf = new int[MOST_DONORS];
        private int seen;

        int addDonor(int[] tape, int n) {
            if (donors >= MOST_DONORS || n < 1 || n > MOST_LETTERS) {
                return NONE;
            }
            donorLengths[donors] = n;
            System.arraycopy(tape, 0, donorSigns, donors * MOST_LETTERS, n);
            // For all numbers of taps: a worn name outlives its tap when an image is brought back.
            for (int tap = 0; tap < MOST_TAPS; tap++) {
                fitting[tap] |= isFit(tap, donors) ? 1 << donors : 0;
            }
            donors++;
            return donors - 1;
        }

        int wear(int tap, int[] tape, int n) {
            if (n < 1 || n > MOST_LETTERS) {
                return NONE;
            }
            wornLengths[tap] = n;
            System.arraycopy(tape, 0, wornSigns, tap * MOST_LETTERS, n);
            fitting[tap] = 0;
            for (int donor = 0; donor < donors; donor++) {
                fitting[tap] |= isFit(tap, donor) ? 1 << donor : 0;
            }
            return Integer.bitCount(fitting[tap]);
        }

        private boolean isFit(int tap, int donor) {
            int n = wornLengths[tap];
            if (n != donorLengths[donor]) {
                return false;
            }
            for (int i = 0; i < n; i++) {
                int sign = wornSigns[tap * MOST_LETTERS + i];
                if (sign != '.' && sign != donorSigns[donor * MOST_LETTERS + i]) {
                    return false;
                }
            }
            return true;
        }

        int wornAmong(int taps) {
            int many = 0;
            for (int tap = 0; tap < taps; tap++) {
                many += wornLengths[tap] > 0 ? 1 : 0;
            }
            return many;
        }

        boolean someWayHas(int tap, int donor, int taps) {
            if (!isIn(fitting[tap], donor)) {
                return false;
            }
            Arrays.fill(tapOf, NONE);
            for (int t = 0; t < taps; t++) {
                seen = 1 << donor;
                if (t != tap && wornLengths[t] > 0 && !findDonor(t, 0)) {
                    return false;
                }
            }
            return true;
        }

        /** A chain takes a donor more at each step, so it can't be longer than there are donors. */
        private boolean findDonor(int tap, int depth) {
            if (depth > MOST_DONORS) {
                return false;
            }
            for (int donor = 0; donor < donors; donor++) {
                if (isIn(fitting[tap] & ~seen, donor)) {
                    seen |= 1 << donor;
                    if (tapOf[donor] == NONE || findDonor(tapOf[donor], depth + 1)) {
                        tapOf[donor] = tap;
                        return true;
                    }
                }
            }
            return false;
        }
    }

    /** The shortest round, and the order of shutting ahead of frost. */
    private static final class Walker {
        private int stops;
        private final int[] numbers = new int[MOST_ROUND];
        private final int[] cells = new int[MOST_ROUND];
        private final int[] losses = new int[MOST_ROUND];
        private final int[] shortest = new int[MOST_ROUND << MOST_ROUND];
        private final int[] cold = new int[HOURS];
        private final int[] order = new int[MOST_ROUND];
        final int[] bestOrder = new int[MOST_ROUND];
        private int speed;
        int best;

        private void gather(City city, int taps) {
            stops = 0;
            for (int tap = 0; tap < city.taps && stops < MOST_ROUND; tap++) {
                if (isIn(taps, tap)) {
                    numbers[stops] = tap;
                    cells[stops] = city.tapCells[tap];
                    losses[stops] = city.losses[tap];
                    stops++;
                }
            }
        }

        int shortestRound(City city, int taps, int cell) {
            gather(city, taps);
            int all = (1 << stops) - 1;
            for (int visited = 1; visited <= all; visited++) {
                for (int last = 0; last < stops; last++) {
                    if (isIn(visited, last)) {
                        shortest[visited * MOST_ROUND + last] = shortestTo(visited, last, cell);
                    }
                }
            }
            int round = BEYOND_ALL;
            for (int last = 0; last < stops; last++) {
                round = Math.min(round, shortest[all * MOST_ROUND + last] + stepsBetween(cells[last], cell));
            }
            return round;
        }

        private int shortestTo(int visited, int last, int cell) {
            int before = visited & ~(1 << last);
            if (before == 0) {
                return stepsBetween(cell, cells[last]);
            }
            int fewest = BEYOND_ALL;
            for (int stop = 0; stop < stops; stop++) {
                if (isIn(before, stop)) {
                    int way = shortest[before * MOST_ROUND + stop] + stepsBetween(cells[stop], cells[last]);
                    fewest = Math.min(fewest, way);
                }
            }
            return fewest;
        }

        void planShutting(City city, int taps, int cell, int stepsAnHour, int[] chances) {
            gather(city, taps);
            System.arraycopy(chances, 0, cold, 0, HOURS);
            speed = Math.max(1, stepsAnHour);
            best = BEYOND_ALL;
            goOn(0, 0, cell, 0, 0);
        }

        /** Goes through the orders from the least on, so the first with the least loss is the one asked for. */
        private void goOn(int depth, int visited, int cell, int hour, int sum) {
            if (sum >= best) {
                return;
            }
            if (depth >= stops) {
                best = sum;
                System.arraycopy(order, 0, bestOrder, 0, stops);
                return;
            }
            for (int stop = 0; stop < stops; stop++) {
                if (!isIn(visited, stop)) {
                    int way = stepsBetween(cell, cells[stop]);
                    int then = Math.min(HOURS - 1, hour + (way + speed - 1) / speed);
                    order[depth] = numbers[stop];
                    goOn(depth + 1, visited | 1 << stop, cells[stop], then, sum + losses[stop] * cold[then]);
                }
            }
        }
    }

    /** The fewest taps to open for the thirsty, and the bound that shows it. */
    private static final class Cover {
        private int size;
        private final int[] taps = new int[MOST_CANDIDATES];
        private final int[] helps = new int[MOST_CANDIDATES];
        private int homes;
        private final int[] helpers = new int[MOST_BOUND_HOUSES];
        int wanted;
        private int best;
        private int bestTaps;

        void prepare(City city, int candidates, int thirsty, int steps) {
            size = 0;
            wanted = 0;
            for (int tap = 0; tap < city.taps && size < MOST_CANDIDATES; tap++) {
                if (isIn(candidates, tap)) {
                    taps[size] = tap;
                    helps[size] = city.housesNear(city.tapCells[tap], steps, thirsty);
                    wanted |= helps[size];
                    size++;
                }
            }
            homes = 0;
            for (int house = 0; house < city.houses && homes < MOST_BOUND_HOUSES; house++) {
                if (isIn(wanted, house)) {
                    helpers[homes] = city.tapsNear(city.houseCells[house], steps, candidates);
                    homes++;
                }
            }
        }

        int fewestTaps() {
            best = size + 1;
            bestTaps = 0;
            choose(size, 0, 0, 0);
            return bestTaps;
        }

        /** The tap of the highest number is left out first, so of as many the least bits are found first. */
        private void choose(int left, int helped, int chosen, int many) {
            if (many >= best) {
                return;
            }
            if ((wanted & ~helped) == 0) {
                best = many;
                bestTaps = chosen;
                return;
            }
            if (left > 0) {
                choose(left - 1, helped, chosen, many);
                choose(left - 1, helped | helps[left - 1], chosen | 1 << taps[left - 1], many + 1);
            }
        }

        int mostApart() {
            best = NONE;
            pack(0, 0, 0);
            return best;
        }

        private void pack(int home, int used, int many) {
            if (many + homes - home <= best) {
                return;
            }
            if (home >= homes) {
                best = many;
                return;
            }
            if ((helpers[home] & used) == 0) {
                pack(home + 1, used | helpers[home], many + 1);
            }
            pack(home + 1, used, many);
        }
    }
}
