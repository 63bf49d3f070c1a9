/** How many there are at most: the last one that is taken, and the first one that is refused, doing nothing. */
public final class LimitTest {
    private static final Due DUE = new Due();
    private static final int MANY = Integer.MAX_VALUE;

    public static void main(String[] args) {
        nodes();
        taps();
        houses();
        placesOfTheCourse();
        shuts();
        levels();
        bottles();
        tests();
        flows();
        nights();
        bursts();
        damages();
        hurts();
        fillings();
        cups();
        plantings();
        jobs();
        trusts();
        donors();
        images();
        bytesOfTheTape();
        aTextOfAllBytes();
        statementsOfACap();
        statementsOfATrust();
        lettersOfADonor();
        lettersOfAWornName();
        digitsOfANumber();
        openInOneAnother();
        tapsToMend();
        housesOfTheBound();
        tapsOfARound();
        tapsAheadOfFrost();
        jobsOfTheCouncil();
        roomAgainByAnImage();
        noRoomForTextsByAnImage();
        DUE.end("LimitTest");
    }

    /** Two objects made alike, one of which was asked for one too many, must be alike. */
    private static void alike(String name, CityCups refused, CityCups untouched) {
        String unlike = Look.unlike(refused, untouched);
        DUE.is(name + " does nothing, but" + unlike, unlike.isEmpty(), true);
    }

    private static CityCups nodes(int many) {
        CityCups x = new CityCups();
        for (int i = 0; i < many; i++) {
            DUE.is("node " + i, x.node(i - 1), i);
        }
        return x;
    }

    private static void nodes() {
        CityCups x = nodes(24);
        DUE.is("a tap at the last", x.tap(23, 0, 0, true, 0), 0);
        x.bottle(0, 0, true);
        DUE.is("it is below all 24", x.germs(0, 1, 0), 0xFFFFFF);
        DUE.is("the 25th below the last", nodes(24).node(23), -1);
        CityCups y = nodes(24);
        DUE.is("the 25th, a source", y.node(-1), -1);
        DUE.is("the 25th below the first", y.node(0), -1);
        DUE.is("count(0)", y.count(0), 24);
        alike("the 25th node", y, nodes(24));
    }

    private static CityCups taps(int many) {
        CityCups x = new CityCups();
        x.node(-1);
        for (int i = 0; i < many; i++) {
            DUE.is("tap " + i, x.tap(0, i, i, true, i), i);
        }
        return x;
    }

    private static void taps() {
        CityCups x = taps(24);
        DUE.is("the last one's cell", x.round(1 << 23, 0), 2 * (1 + 7));
        DUE.is("the last one runs", x.runs(23, 0, 0), 0);
        DUE.is("a 25th", x.tap(0, 0, 0, true, 0), -1);
        DUE.is("it isn't there", x.runs(24, 0, 0), -1);
        CityCups y = taps(24);
        DUE.is("a 25th", y.tap(0, 9, 9, false, 9), -1);
        alike("the 25th tap", y, taps(24));
    }

    private static CityCups houses(int many) {
        CityCups x = Due.withTaps(1);
        for (int i = 0; i < many; i++) {
            DUE.is("house " + i, x.house(i), i);
        }
        return x;
    }

    private static void houses() {
        CityCups x = houses(30);
        DUE.is("the last one is covered", x.covered(29, 14, 0, 0), 0);
        DUE.is("the last one is thirsty", x.thirsty(13, 0, 0, x.thirsty(13, 0, 0, -1) - 1), 29);
        DUE.is("a 31st", x.house(255), -1);
        DUE.is("it isn't there", x.covered(30, 30, 0, 0), -2);
        DUE.is("none more is thirsty", x.thirsty(15, 0, 0, -1), 0);
        CityCups y = houses(30);
        DUE.is("a 31st", y.house(5), -1);
        alike("the 31st house", y, houses(30));
    }

    private static CityCups course(int many) {
        CityCups x = Due.withTaps(1);
        for (int i = 1; i <= many; i++) {
            DUE.is("course " + i, x.course(0), i);
        }
        return x;
    }

    private static void placesOfTheCourse() {
        CityCups x = course(20);
        DUE.is("the last place", x.stations(20, 0, 0, 0, 1), 19);
        DUE.is("a 21st", x.course(0), -1);
        DUE.is("still twenty", x.stations(1, 0, 0, 0, 0), 20);
        DUE.is("count(22)", x.count(22), 20);
        CityCups y = course(20);
        DUE.is("a 21st", y.course(255), -1);
        alike("the 21st place", y, course(20));
    }

    private static CityCups shuts(int many) {
        CityCups x = Due.withTaps(2);
        x.day(3);
        for (int i = 1; i <= many; i++) {
            DUE.is("shut " + i, x.shut(i == 80 ? 1 : 0, i % 4, i == 80), i);
        }
        return x;
    }

    private static void shuts() {
        CityCups x = shuts(80);
        DUE.is("the 80th is told", x.runs(1, 0, 3), 1);
        DUE.is("the 81st", x.shut(0, 3, true), -1);
        DUE.is("it isn't told", x.runs(0, 3, 3), 0);
        CityCups y = shuts(80);
        DUE.is("the 81st opens", y.shut(1, 3, false), -1);
        DUE.is("it isn't told", y.runs(1, 3, 3), 1);
        alike("the 81st", x, shuts(80));
    }

    private static CityCups levels(int many) {
        CityCups x = Due.withTaps(1);
        Due.cap(x, "cap if level=7;");
        for (int i = 1; i <= many; i++) {
            DUE.is("level " + i, x.level(0, i == 40 ? 7 : 50), i);
        }
        return x;
    }

    private static void levels() {
        CityCups x = levels(40);
        DUE.is("the 40th is told", x.runs(0, 0, 0), 2);
        DUE.is("the 41st", x.level(0, 8), -1);
        DUE.is("it isn't told", x.runs(0, 0, 0), 2);
        alike("the 41st level", x, levels(40));
    }

    private static CityCups bottles(int many) {
        CityCups x = nodes(2);
        x.tap(0, 0, 0, true, 0);
        x.tap(1, 0, 0, true, 0);
        for (int i = 1; i <= many; i++) {
            DUE.is("bottle " + i, x.bottle(i == 60 ? 1 : 0, 0, i == 60), i);
        }
        return x;
    }

    private static void bottles() {
        DUE.is("59 without germs", bottles(59).germs(0, 1, 0), 0);
        CityCups x = bottles(60);
        DUE.is("the 60th is told", x.germs(0, 1, 0), 2);
        DUE.is("the 61st", x.bottle(1, 0, false), -1);
        DUE.is("it isn't told", x.germs(0, 1, 0), 2);
        alike("the 61st bottle", x, bottles(60));
    }

    private static CityCups tests(int many) {
        CityCups x = nodes(3);
        x.tap(1, 0, 0, true, 0);
        x.tap(2, 0, 0, true, 0);
        for (int i = 1; i <= many; i++) {
            DUE.is("test " + i, x.test(i == 40 ? 0 : 1, 0, true), i);
        }
        return x;
    }

    private static void tests() {
        DUE.is("by 39 it is open", tests(39).lead(1, 0), 2);
        CityCups x = tests(40);
        DUE.is("the 40th is told", x.lead(1, 0), 1);
        DUE.is("the 41st", x.test(0, 0, false), -1);
        DUE.is("it isn't told", x.lead(1, 0), 1);
        alike("the 41st test", x, tests(40));
    }

    private static CityCups flows(int many) {
        CityCups x = nodes(1);
        for (int i = 1; i <= many; i++) {
            DUE.is("flow " + i, x.flow(0, 0, i), i);
        }
        return x;
    }

    private static void flows() {
        CityCups x = flows(60);
        DUE.is("the 60th is told", x.drips(0, 0, 0, 0), 60);
        DUE.is("the 61st", x.flow(0, 0, 61), -1);
        DUE.is("it isn't told", x.drips(0, 0, 0, 0), 60);
        alike("the 61st flow", x, flows(60));
    }

    private static CityCups nights(int many) {
        CityCups x = Due.withTaps(1);
        x.day(39);
        for (int i = 1; i <= many; i++) {
            DUE.is("night " + i, x.night(i - 1, i), i);
        }
        return x;
    }

    private static void nights() {
        CityCups x = nights(40);
        DUE.is("all forty are told", x.beside(0, 999, 39, 2), 40 * 41 / 2);
        DUE.is("the 40th", x.beside(39, 39, 39, 2), 40);
        DUE.is("the 41st", x.night(39, 100), -1);
        DUE.is("it isn't told", x.beside(39, 39, 39, 2), 40);
        alike("the 41st night", x, nights(40));
    }

    private static CityCups bursts(int many) {
        CityCups x = Due.withTaps(24);
        for (int i = 1; i <= many; i++) {
            DUE.is("burst " + i, x.burst(i == 40 ? 23 : 1, 0), i);
        }
        return x;
    }

    private static void bursts() {
        CityCups x = bursts(40);
        DUE.is("forty are told", x.beside(0, 0, 0, 0), 40);
        DUE.is("the 40th too", x.beside(0, 0, 0, 1), 39 * 10 + 230);
        DUE.is("the 41st", x.burst(5, 0), -1);
        DUE.is("it isn't told", x.beside(0, 0, 0, 1), 39 * 10 + 230);
        alike("the 41st burst", x, bursts(40));
    }

    private static CityCups damages(int many) {
        CityCups x = Due.withTaps(2);
        for (int i = 1; i <= many; i++) {
            DUE.is("damage " + i, x.damage(0, 0, i == 40 ? 7 : i % 20 > 9 ? 7 : 9), i);
        }
        return x;
    }

    private static void damages() {
        DUE.is("39: as many at both hours", damages(39).watch(1, 0, 1), 20);
        CityCups x = damages(40);
        DUE.is("the 40th is told", x.watch(1, 0, 1), 21);
        DUE.is("at its hour", x.watch(1, 0, 0), 7);
        DUE.is("the 41st", x.damage(0, 0, 7), -1);
        DUE.is("it isn't told", x.watch(1, 0, 1), 21);
        alike("the 41st damage", x, damages(40));
    }

    private static CityCups hurts(int many) {
        CityCups x = Due.withTaps(2);
        for (int i = 1; i <= many; i++) {
            DUE.is("hurt " + i, x.hurt(i % 2, 0, 9999), i);
        }
        return x;
    }

    private static void hurts() {
        CityCups x = hurts(40);
        DUE.is("forty are told", x.hurts(0, 0, 0, 0), 40);
        DUE.is("their coin", x.hurts(0, 0, 0, 1), 399960);
        DUE.is("the 41st", x.hurt(0, 0, 1), -1);
        DUE.is("it isn't told", x.hurts(0, 0, 0, 1), 399960);
        alike("the 41st hurt", x, hurts(40));
    }

    private static CityCups fillings(int many) {
        CityCups x = Due.withTaps(2);
        for (int i = 1; i <= many; i++) {
            DUE.is("fill " + i, x.fill(1, 0, 9999), i);
        }
        return x;
    }

    private static void fillings() {
        CityCups x = fillings(80);
        DUE.is("eighty are told", x.filled(1, 0, 0, 0), 799920);
        DUE.is("of all", x.filled(-1, 0, 0, 0), 799920);
        DUE.is("the 81st", x.fill(0, 0, 1), -1);
        DUE.is("it isn't told", x.filled(0, 0, 0, 0), 0);
        alike("the 81st filling", x, fillings(80));
    }

    private static CityCups cups(int many) {
        CityCups x = Due.withTaps(2);
        x.ban(0);
        for (int i = 1; i <= many; i++) {
            DUE.is("cup " + i, x.cup(i == 40 ? 1 : 0, 0, i == 40), i);
        }
        return x;
    }

    private static void cups() {
        CityCups x = cups(40);
        DUE.is("the 40th is told", x.banned(0, 0, 0), 1);
        DUE.is("the 41st", x.cup(0, 0, true), -1);
        DUE.is("it isn't told", x.banned(0, 0, -1), 1);
        alike("the 41st cup", x, cups(40));
    }

    private static CityCups plantings(int many) {
        CityCups x = Due.withTaps(2);
        Due.cap(x, "cap if trough=0;");
        for (int i = 1; i <= many; i++) {
            DUE.is("plant " + i, x.plant(i == 40 ? 1 : 0, 0, i == 40), i);
        }
        return x;
    }

    private static void plantings() {
        CityCups x = plantings(40);
        DUE.is("the 40th is told", x.runs(1, 0, 0), 2);
        DUE.is("the 41st", x.plant(0, 0, true), -1);
        DUE.is("it isn't told", x.runs(0, 0, 0), 0);
        alike("the 41st planting", x, plantings(40));
    }

    private static CityCups jobs(int many) {
        CityCups x = Due.withTaps(1);
        for (int i = 0; i < many; i++) {
            DUE.is("job " + i, x.job(0, 2, 9, i == 39 ? 0 : 9), i);
        }
        x.day(4);
        return x;
    }

    private static void jobs() {
        CityCups x = jobs(40);
        DUE.is("the 40th is late", x.late(39), 4);
        DUE.is("it alone", x.late(-1), 4);
        DUE.is("a 41st", x.job(0, 0, 1, 0), -1);
        DUE.is("it isn't there", x.late(40), -2);
        DUE.is("nor late", x.late(-1), 4);
        DUE.is("the 40th is done", x.done(39, 0), true);
        CityCups y = jobs(40);
        DUE.is("a 41st", y.job(0, 2, 1, 0), -1);
        alike("the 41st job", y, jobs(40));
    }

    private static CityCups trusts(int many) {
        CityCups x = Due.withTaps(1);
        for (int i = 0; i < many; i++) {
            DUE.is("trust " + i, Due.trust(x, i == 4 ? "pay pipe;" : "pay tap;", 1, 100 + i), i);
        }
        Due.cap(x, "cap if");
        Due.put(x, "pay any; nothing more");
        return x;
    }

    private static void trusts() {
        CityCups x = trusts(5);
        DUE.is("the fifth pays", x.payers(0, 1, 1), 16);
        DUE.is("its coin", x.count(14), 104);
        DUE.is("a sixth", x.trust(8, 1, 5), -3);
        DUE.is("a sixth with a fault", x.trust(20, 1, 5), -3);
        DUE.is("a sixth of nothing", x.trust(0, 1, 5), -3);
        DUE.is("a sixth at the edges", x.trust(40, 0xFFFFFF, 99999), -3);
        DUE.is("the tape stays", x.count(9), 40);
        DUE.is("the fault stays", x.fault(), 6);
        DUE.is("it doesn't pay", x.payers(0, 0, 1), 15);
        alike("the sixth trust", x, trusts(5));
    }

    private static CityCups donors(int many) {
        CityCups x = Due.withTaps(2);
        for (int i = 0; i < many; i++) {
            DUE.is("donor " + i, Due.donor(x, i == 19 ? "b" : "a"), i);
        }
        Due.worn(x, 0, ".");
        Due.worn(x, 1, "b");
        Due.cap(x, "cap ");
        Due.put(x, "b1");
        return x;
    }

    private static void donors() {
        CityCups x = donors(20);
        DUE.is("all fit", x.fits(0, -1), 20);
        DUE.is("the last", x.fits(0, 19), 19);
        DUE.is("no 21st", x.fits(0, 20), -1);
        DUE.is("it remembers the last", x.remembers(1), 19);
        CityCups y = donors(20);
        DUE.is("a 21st", y.donor(1), -3);
        DUE.is("a 21st with a fault", y.donor(2), -3);
        DUE.is("a 21st of nothing", y.donor(0), -3);
        DUE.is("a 21st, the whole tape", y.donor(20), -3);
        DUE.is("the tape stays", y.count(9), 20);
        DUE.is("the fault stays", y.fault(), 4);
        alike("the 21st donor", y, donors(20));
    }

    private static CityCups images(int many) {
        CityCups x = Due.withTaps(1);
        for (int i = 0; i < many; i++) {
            x.house(i);
            DUE.is("image " + i, x.image(), i);
        }
        x.house(9);
        return x;
    }

    private static void images() {
        CityCups x = images(3);
        DUE.is("a fourth", x.image(), -1);
        DUE.is("count(20)", x.count(20), 3);
        DUE.is("it can't be brought back", x.back(3), false);
        DUE.is("all stays", x.count(2), 4);
        CityCups y = images(3);
        DUE.is("a fourth", y.image(), -1);
        alike("the fourth image", y, images(3));
        DUE.is("the third", images(3).back(2), true);
        CityCups z = images(3);
        z.image();
        z.back(2);
        DUE.is("as in the third", z.count(2), 3);
        DUE.is("two: no third to bring back", images(2).back(2), false);
    }

    private static CityCups tape(int many) {
        CityCups x = Due.withTaps(1);
        for (int i = 1; i <= many; i++) {
            DUE.is("feed " + i, x.feed(0x6361703B, 0x20202020, i, MANY, -1), 20 * i);
        }
        return x;
    }

    private static void bytesOfTheTape() {
        CityCups x = tape(25);
        DUE.is("beyond 500", x.feed(0, 0, 0, 0, 0), -1);
        DUE.is("500 still", x.count(9), 500);
        DUE.is("501 aren't there", x.cap(501), -2);
        alike("the 26th feed", x, tape(25));
        CityCups y = tape(24);
        DUE.is("480 to 500", y.feed(0, 0, 0, 0, 0), 500);
        y = tape(25);
        DUE.is("taken off", y.cap(4), 1);
        DUE.is("room again", y.feed(1, 2, 3, 4, 5), 20);
    }

    private static void aTextOfAllBytes() {
        CityCups x = Due.withTaps(1);
        // 24 statements, 500 bytes: the last of them is the first that holds.
        String text = "spare if day > 00009;".repeat(23) + "cap if day < 1;" + " ".repeat(2);
        DUE.is("500 bytes", Due.cap(x, text), 24);
        DUE.is("the last tells", x.runs(0, 0, 0), 2);
        text = "spare if day > 00009;".repeat(23) + "cap if day < 1  ;";
        DUE.is("500 bytes, the last is a sign", Due.cap(x, text), 24);
        DUE.is("the last tells", x.runs(0, 0, 0), 2);
        text = "spare if day > 00009;".repeat(23) + "cap if day < 1   ";
        DUE.is("500 bytes, and more must come", Due.cap(x, text), -1);
        DUE.is("at the text's length", x.fault(), 500);
        text = "spare if day > 00009;".repeat(23) + "cap if day < 1  #";
        DUE.is("500 bytes, the last begins none", Due.cap(x, text), -1);
        DUE.is("its place", x.fault(), 499);
        text = "spare if day > 00009;".repeat(23) + "cap if day<000001";
        DUE.is("500 bytes, the last is one digit too many", Due.cap(x, text), -1);
        DUE.is("where the number begins", x.fault(), 494);
        text = "spare if day > 00009;".repeat(23) + "cap if day<00001x";
        DUE.is("500 bytes, a word of one letter at their end", Due.cap(x, text), -1);
        DUE.is("its place", x.fault(), 499);
        text = "cap if " + "day=0 and ".repeat(48) + "day=0       ;";
        DUE.is("500 bytes, one statement of 49", Due.cap(x, text), 1);
        DUE.is("all hold", x.runs(0, 0, 0), 2);
        DUE.is("none holds", x.runs(0, 1, 0), 0);
        text = "cap if " + "day=9 or ".repeat(53) + "day=0          ;";
        DUE.is("500 bytes, one statement of 54", Due.cap(x, text), 1);
        DUE.is("the last holds", x.runs(0, 0, 0), 2);
    }

    private static void statementsOfACap() {
        CityCups x = Due.withTaps(1);
        DUE.is("23", Due.cap(x, "spare if day>0;".repeat(22) + "cap;"), 23);
        DUE.is("24", Due.cap(x, "spare if day>0;".repeat(23) + "cap;"), 24);
        DUE.is("the last tells", x.runs(0, 0, 0), 2);
        DUE.is("25", Due.cap(x, "spare;".repeat(25)), -1);
        DUE.is("where the 25th begins", x.fault(), 144);
        DUE.is("25, not ended", Due.cap(x, "spare;".repeat(24) + "\n spare"), -1);
        DUE.is("where the 25th begins", x.fault(), 146);
        DUE.is("25, a trust's", Due.cap(x, "spare;".repeat(24) + "pay"), -1);
        DUE.is("where the 25th begins", x.fault(), 144);
        DUE.is("a fault in the 24th", Due.cap(x, "spare;".repeat(23) + "spare spare;spare;"), -1);
        DUE.is("its place", x.fault(), 144);
        DUE.is("the one there was stays", x.count(21), 24);
        DUE.is("the last of it tells", x.runs(0, 0, 0), 2);
    }

    private static void statementsOfATrust() {
        CityCups x = Due.withTaps(1);
        DUE.is("24", Due.trust(x, "refuse tap;".repeat(23) + "pay pipe;", 1, 0), 0);
        DUE.is("the last tells", x.payers(0, 1, 1), 1);
        DUE.is("25", Due.trust(x, "refuse tap;".repeat(24) + "pay pipe;", 1, 0), -1);
        DUE.is("where the 25th begins", x.fault(), 264);
        DUE.is("none came of it", x.count(4), 1);
    }

    private static void lettersOfADonor() {
        CityCups x = Due.withTaps(1);
        DUE.is("none", Due.donor(x, ""), -1);
        DUE.is("its fault", x.fault(), 0);
        DUE.is("one", Due.donor(x, "a"), 0);
        DUE.is("twelve", Due.donor(x, "abcdefghijkz"), 1);
        DUE.is("thirteen", Due.donor(x, "abcdefghijklm"), -1);
        DUE.is("the 13th", x.fault(), 12);
        DUE.is("an eleventh that is none", Due.donor(x, "abcdefghijkl.".replace('k', '.')), -1);
        DUE.is("its place", x.fault(), 10);
        DUE.is("a twelfth that is none", Due.donor(x, "abcdefghijk.m"), -1);
        DUE.is("its place", x.fault(), 11);
        DUE.is("a thirteenth that is none", Due.donor(x, "abcdefghijkl."), -1);
        DUE.is("its place", x.fault(), 12);
        DUE.is("five hundred", Due.donor(x, "a".repeat(500)), -1);
        DUE.is("the 13th", x.fault(), 12);
        DUE.is("two are there", x.count(5), 2);
        DUE.is("the one of twelve", Due.worn(x, 0, "abcdefghijk."), 1);
        DUE.is("the one of one", Due.worn(x, 0, "."), 1);
    }

    private static void lettersOfAWornName() {
        CityCups x = Due.withTaps(2);
        Due.donor(x, "a");
        Due.donor(x, "abcdefghijkl");
        DUE.is("twelve", Due.worn(x, 0, "...........l"), 1);
        DUE.is("none", Due.worn(x, 0, ""), -1);
        DUE.is("its fault", x.fault(), 0);
        DUE.is("thirteen", Due.worn(x, 0, "............l"), -1);
        DUE.is("the 13th", x.fault(), 12);
        DUE.is("a thirteenth that is none", Due.worn(x, 0, "............1"), -1);
        DUE.is("its place", x.fault(), 12);
        DUE.is("a twelfth that is none", Due.worn(x, 0, "...........1."), -1);
        DUE.is("its place", x.fault(), 11);
        DUE.is("what was stays", x.fits(0, 0), 1);
        DUE.is("one", Due.worn(x, 0, "a"), 1);
        DUE.is("one letter for any", Due.worn(x, 1, "."), 1);
        DUE.is("in place of what was", x.fits(0, 0), 0);
    }

    private static void digitsOfANumber() {
        CityCups x = Due.withTaps(1);
        String[] good = {"0", "9", "10", "99", "100", "999", "1000", "9999", "10000", "99999", "00000", "00001"};
        for (String number : good) {
            DUE.is("day=" + number, Due.cap(x, "cap if day=" + number + ";"), 1);
            int day = Integer.parseInt(number);
            DUE.is("on that day", x.runs(0, day, 0), day > 999 ? -1 : 2);
            DUE.is("the day ahead", x.runs(0, day - 1, 0), day == 0 || day > 1000 ? -1 : 0);
            DUE.is("the day behind", x.runs(0, day + 1, 0), day >= 999 ? -1 : 0);
        }
        String[] bad = {"000000", "100000", "999999", "0000001", "12345678901234567890"};
        for (String number : bad) {
            DUE.is("day=" + number, Due.cap(x, "cap if day=" + number + ";"), -1);
            DUE.is("where it begins", x.fault(), 11);
        }
        DUE.is("six digits behind blanks", Due.cap(x, "cap if day= \n123456"), -1);
        DUE.is("where it begins", x.fault(), 13);
        DUE.is("none", Due.cap(x, "cap if day=;"), -1);
        DUE.is("its place", x.fault(), 11);
    }

    private static void openIs(String condition, int due, int fault) {
        CityCups x = Due.withTaps(1);
        DUE.is(condition, Due.cap(x, "cap if " + condition + ";"), due);
        DUE.is("fault of " + condition, x.fault(), fault);
    }

    private static void openInOneAnother() {
        for (int nots = 0; nots <= 10; nots++) {
            String nine = "not ".repeat(nots) + "(".repeat(9 - Math.min(9, nots)) + "day=0" + ")".repeat(9 - Math.min(9, nots));
            openIs(nine, nots > 9 ? -1 : 1, nots > 9 ? 7 + 36 : -1);
            String ten = "not ".repeat(nots) + "(".repeat(10 - nots) + "day=0" + ")".repeat(10 - nots);
            openIs(ten, -1, 7 + (nots == 10 ? 36 : 4 * nots + 9 - nots));
        }
        // The ninth is closed ahead of the next one, so that there are nine again.
        openIs("(((((((( (day=0) and (day=1) or not day=2 ))))))))", 1, -1);
        openIs("(((((((( (day=0) and (not day=1) ))))))))", -1, 7 + 22);
        openIs("not not not not not not not not not day=0 and not day=1", 1, -1);
        CityCups x = Due.withTaps(1);
        DUE.is("nine nots", Due.cap(x, "cap if not not not not not not not not not day=1;"), 1);
        DUE.is("on day 0", x.runs(0, 0, 0), 2);
        DUE.is("on day 1", x.runs(0, 1, 0), 0);
        String deep = "day=9 or day=0 and (".repeat(9) + "day=9 or day=0 and day<1" + ")".repeat(9);
        DUE.is("nine open, two waiting in each", Due.cap(x, "cap if " + deep + ";"), 1);
        DUE.is("on day 0", x.runs(0, 0, 0), 2);
        DUE.is("on day 1", x.runs(0, 1, 0), 0);
        DUE.is("on day 9", x.runs(0, 9, 0), 2);
    }

    private static CityCups shutTaps(int many) {
        CityCups x = Due.withTaps(many);
        x.house(0);
        for (int i = 0; i < many; i++) {
            x.shut(i, 0, true);
        }
        return x;
    }

    private static void tapsToMend() {
        for (int what = 0; what < 3; what++) {
            DUE.is("12: mend " + what, shutTaps(12).mend(0, 0, 0, what), what == 2 ? 0 : 1);
            DUE.is("13: mend " + what, shutTaps(13).mend(0, 0, 0, what), -1);
            DUE.is("24: mend " + what, shutTaps(24).mend(0, 0, 0, what), -1);
        }
        CityCups x = shutTaps(24);
        for (int i = 0; i < 12; i++) {
            x.shut(i, 0, false);
        }
        x.shut(12, 0, false);
        x.shut(11, 0, true);
        DUE.is("12 of 24, others run", x.mend(0, 0, 0, 0), 0);
        // Of 24 that are SHUT those that the CAP would keep from running are no such TAPS.
        x = new CityCups();
        x.node(-1);
        x.node(0);
        for (int i = 0; i < 24; i++) {
            x.tap(i % 2, 0, 0, true, 0);
            x.shut(i, 0, true);
        }
        x.house(0);
        DUE.is("24", x.mend(0, 0, 0, 0), -1);
        Due.cap(x, "cap if node=1;");
        DUE.is("12 that would run", x.mend(0, 0, 0, 0), 1);
        Due.cap(x, "cap if node=0;");
        DUE.is("the other 12", x.mend(0, 0, 0, 0), 2);
        x.tap(0, 0, 0, true, 0);
        DUE.is("no 25th", x.count(1), 24);
        DUE.is("by a day of which nothing is known", x.mend(0, 0, 0, 1), 1);
    }

    private static void housesOfTheBound() {
        // A HOUSE in every cell of a row that no other TAP reaches; each one's TAP is SHUT.
        for (int many = 11; many <= 12; many++) {
            CityCups x = new CityCups();
            x.node(-1);
            for (int i = 0; i < many; i++) {
                x.shut(x.tap(0, 2 * i, 0, true, 0), 0, true);
                x.house(255);
                x.house(2 * i);
            }
            DUE.is(many + " apart", x.mend(0, 0, 0, 1), many);
            DUE.is("all are needed", x.mend(0, 0, 0, 0), (1 << many) - 1);
            DUE.is("the others stay", x.mend(0, 0, 0, 2), many);
        }
        for (int first = 10; first <= 13; first++) {
            CityCups x = new CityCups();
            x.node(-1);
            for (int i = 0; i < 3; i++) {
                x.shut(x.tap(0, 64 * i, 0, true, 0), 0, true);
            }
            // One that runs, one that none can help: neither counts among the twelve.
            x.tap(0, 255, 0, true, 0);
            x.house(255);
            x.house(240);
            for (int i = 0; i < first; i++) {
                x.house(0);
            }
            x.house(64);
            x.house(128);
            DUE.is(first + " in one place ahead of two", x.mend(0, 0, 0, 1), Math.min(3, 1 + Math.max(0, 12 - first)));
            DUE.is("all three are needed", x.mend(0, 0, 0, 0), 7);
            DUE.is("one stays", x.mend(0, 0, 0, 2), 1);
        }
    }

    private static void tapsOfARound() {
        CityCups x = taps(24);
        DUE.is("one", x.round(1 << 15, 0), 30);
        DUE.is("eight", x.round(0xFF, 0), 14);
        DUE.is("eight that lie apart", x.round(0xC0808F, 0), 32);
        DUE.is("nine", x.round(0x1FF, 0), -1);
        DUE.is("the last eight", x.round(0xFF0000, 16), 14);
        DUE.is("the last nine", x.round(0xFF8000, 16), -1);
        DUE.is("all", x.round(0xFFFFFF, 0), -1);
        DUE.is("one more than there are", x.round(1 << 24, 0), -1);
        DUE.is("none", x.round(0, 0), -1);
        CityCups y = taps(8);
        DUE.is("all eight", y.round(255, 0), 14);
        DUE.is("the ninth isn't there", y.round(256, 0), -1);
        DUE.is("seven and the ninth", y.round(256 + 127, 0), -1);
    }

    private static void tapsAheadOfFrost() {
        CityCups x = taps(24);
        for (int hour = 0; hour < 24; hour++) {
            x.cold(hour, 1);
        }
        DUE.is("one", x.frost(1 << 23, 0, 1, 0), 23);
        DUE.is("seven", x.frost(0x7F, 0, 1, 0), 21);
        DUE.is("the seventh", x.frost(0x7F, 0, 1, 7), 6);
        DUE.is("no eighth", x.frost(0x7F, 0, 1, 8), -1);
        DUE.is("the last seven", x.frost(0xFE0000, 0, 1, 0), 17 + 18 + 19 + 20 + 21 + 22 + 23);
        DUE.is("the last of them", x.frost(0xFE0000, 0, 1, 7), 23);
        DUE.is("eight", x.frost(0xFF, 0, 1, 0), -1);
        DUE.is("eight, the order", x.frost(0xFF, 0, 1, 1), -1);
        DUE.is("none", x.frost(0, 0, 1, 0), -1);
        DUE.is("one more than there are", x.frost(1 << 24, 0, 1, 0), -1);
        DUE.is("all", x.frost(0xFFFFFF, 0, 1, 0), -1);
    }

    private static void jobsOfTheCouncil() {
        CityCups x = Due.withTaps(1);
        for (int i = 1; i <= 7; i++) {
            x.job(0, 0, i * 10, 0);
            DUE.is(i + ": asked", x.council(2), Math.min(6, i));
            DUE.is(i + ": paid", x.council(0), i < 7 ? 5 * i * (i + 1) : 210);
        }
        Due.trust(x, "pay any if cost=70 or cost=60;", 1, 70);
        DUE.is("the seventh isn't asked", x.council(0), 150);
        DUE.is("the sixth by the trust", x.council(1), 7776);
        x.done(0, 0);
        DUE.is("the seventh is, in place of the first", x.council(1), 7776);
        DUE.is("six are asked", x.council(2), 6);
        DUE.is("the dearer one by the trust", x.council(0), 20 + 30 + 40 + 50 + 60);
        DUE.is("settled", x.settle(), 200);
        DUE.is("none more", x.settle(), -1);
        DUE.is("paid", x.count(8), 6);
        for (int t = 1; t < 5; t++) {
            Due.trust(x, "pay any;", 1, 99999);
        }
        for (int i = 0; i < 6; i++) {
            x.job(0, 0, 9999, 0);
        }
        DUE.is("all by the second", x.council(1), 2 * (1 + 6 + 36 + 216 + 1296 + 7776));
        x = Due.withTaps(1);
        for (int t = 0; t < 5; t++) {
            Due.trust(x, t == 4 ? "pay any;" : "", 1, 99999);
        }
        for (int i = 0; i < 6; i++) {
            x.job(0, 0, 9999, 0);
        }
        DUE.is("the highest code", x.council(1), 46655);
        DUE.is("nothing by the council", x.council(0), 0);
    }

    private static void roomAgainByAnImage() {
        CityCups x = Due.withTaps(2);
        x.day(5);
        x.image();
        for (int i = 0; i < 100; i++) {
            x.shut(0, 5, true);
            x.house(0);
            x.job(0, 0, 1, 0);
        }
        DUE.is("full: shut", x.shut(0, 5, false), -1);
        DUE.is("full: house", x.house(0), -1);
        DUE.is("full: job", x.job(0, 0, 1, 0), -1);
        x.back(0);
        DUE.is("room: shut", x.shut(1, 5, true), 1);
        DUE.is("room: house", x.house(0), 0);
        DUE.is("room: job", x.job(0, 0, 1, 0), 0);
        DUE.is("not shut any more", x.runs(0, 5, 5), 0);
        DUE.is("shut now", x.runs(1, 5, 5), 1);
    }

    private static void noRoomForTextsByAnImage() {
        CityCups x = Due.withTaps(1);
        x.image();
        for (int i = 0; i < 5; i++) {
            Due.trust(x, "", 1, i);
        }
        for (int i = 0; i < 20; i++) {
            Due.donor(x, "a");
        }
        x.image();
        x.image();
        x.back(0);
        DUE.is("trusts stay", x.trust(0, 1, 1), -3);
        DUE.is("donors stay", x.donor(0), -3);
        DUE.is("images stay", x.image(), -1);
        DUE.is("coin of the fifth", x.count(14), 4);
    }
}
