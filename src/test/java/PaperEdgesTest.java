import java.util.function.Consumer;

/** The edges of cans, papers, the code and the list, sentence by sentence: terms 3 and 4, promises 19 to 27, 30, 31. */
public final class PaperEdgesTest {
    private static final int NONE = SoupCargo.NONE;
    private static final Check CHECK = new Check("PaperEdgesTest");

    public static void main(String[] args) {
        canEdges();
        canRefused();
        spanWithoutCans();
        spanHeld();
        spanUpToAnHour();
        steps();
        distances();
        meanEdges();
        meanRefused();
        papers();
        could();
        fairEmpty();
        fairDistance();
        fairFewest();
        codeAtFirst();
        age();
        nowOfTheCode();
        mayEdges();
        letRanges();
        letAbove();
        letFirst();
        listEdges();
        listFull();
        riskEdges();
        worstHarbour();
        CHECK.close();
    }

    private static void nothingDone(String what, Consumer<SoupCargo> past, Consumer<SoupCargo> refused) {
        CHECK.due("the view that tells that something was done: " + what, Twins.toldApart(past, refused), -1);
    }

    private static void canEdges() {
        CHECK.by("CANS 0 .. 59 are filled of a CELL of THE HEAP with ORE, in NOW: WET then.");
        SoupCargo cargo = new SoupCargo();
        cargo.heap(0, 0, 0, 99, 98);
        cargo.heap(7, 7, 0, 1, 50);
        for (int n = 0; n < 60; n++) {
            CHECK.due("can", cargo.can(7, 7, 0), n);
        }
        CHECK.by("or there are 60.");
        CHECK.due("a 61st", cargo.can(7, 7, 0), NONE);
        CHECK.due("a 61st of another CELL", cargo.can(0, 0, 0), NONE);
        CHECK.due("it does not count", cargo.span(0, 0, 0, 719, 1), 92);
        nothingDone("a 61st can", Scene::full, twin -> twin.can(0, 0, 0));
        CHECK.by("in NOW: WET then.");
        SoupCargo then = new SoupCargo();
        then.heap(0, 0, 0, 2, 19);
        then.can(0, 0, 0);
        then.heap(0, 0, 0, 2, 91);
        CHECK.due("WET then, not now", then.span(0, 0, 0, 0, 0), 9);
        then.heap(0, 0, 0, 0, 0);
        CHECK.due("though there is no ORE any more", then.span(0, 0, 0, 0, 1), 9);
    }

    private static void canRefused() {
        CHECK.by("A CAN: its number; NONE if there is no ORE");
        SoupCargo cargo = new SoupCargo();
        CHECK.due("no ORE at all", cargo.can(0, 0, 0), NONE);
        cargo.heap(3, 3, 0, 1, 0);
        CHECK.due("above the TOP", cargo.can(3, 3, 1), NONE);
        CHECK.due("beside it", cargo.can(3, 4, 0), NONE);
        CHECK.due("of it", cargo.can(3, 3, 0), 0);
        cargo.load(3, 3, 0, 0);
        CHECK.due("it is LOADED", cargo.can(3, 3, 0), NONE);
        nothingDone("a can without ORE", Scene::inPort, twin -> twin.can(1, 1, 0));
        nothingDone("a can above a TOP", Scene::inPort, twin -> twin.can(3, 4, 1));
    }

    private static void spanWithoutCans() {
        CHECK.by("(0 and 99 without CANS)");
        SoupCargo cargo = new SoupCargo();
        cargo.heap(0, 0, 0, 1, 50);
        for (int hour = 0; hour <= 719; hour += 719) {
            CHECK.due("the least", cargo.span(0, 0, 0, hour, 0), 0);
            CHECK.due("the greatest", cargo.span(0, 0, 0, hour, 1), 99);
            CHECK.due("the least without ORE", cargo.span(7, 7, 3, hour, 0), 0);
            CHECK.due("the greatest without ORE", cargo.span(7, 7, 3, hour, 1), 99);
        }
    }

    private static void spanHeld() {
        CHECK.by("each held to 0 .. 99");
        int[] wets = {0, 1, 2, 3, 4, 95, 96, 97, 99, 100, 102, 103, 9999};
        for (int wet : wets) {
            SoupCargo cargo = new SoupCargo();
            cargo.heap(0, 0, 0, 1, wet);
            cargo.can(0, 0, 0);
            CHECK.due("the least there of " + wet, cargo.span(0, 0, 0, 0, 0), Math.min(99, wet));
            CHECK.due("the greatest there of " + wet, cargo.span(0, 0, 0, 0, 1), Math.min(99, wet));
            CHECK.due("the least 1 off of " + wet, cargo.span(0, 1, 0, 0, 0), Math.max(0, Math.min(99, wet - 3)));
            CHECK.due("the greatest 1 off of " + wet, cargo.span(0, 1, 0, 0, 1), Math.min(99, wet + 3));
        }
        CHECK.by("what 0 the least, 1 the greatest (it may be below the least).");
        SoupCargo cargo = new SoupCargo();
        cargo.heap(0, 0, 0, 1, 0);
        cargo.heap(0, 1, 0, 1, 9999);
        cargo.can(0, 0, 0);
        cargo.can(0, 1, 0);
        CHECK.due("the least", cargo.span(0, 0, 0, 0, 0), 99);
        CHECK.due("the greatest", cargo.span(0, 0, 0, 0, 1), 0);
    }

    private static void spanUpToAnHour() {
        CHECK.by("A SPAN of a CELL as of CANS up to an HOUR (0 .. 719)");
        SoupCargo cargo = new SoupCargo();
        cargo.heap(0, 0, 0, 1, 10);
        cargo.hours(5);
        cargo.can(0, 0, 0);
        cargo.heap(0, 0, 0, 1, 30);
        cargo.hours(1);
        cargo.can(0, 0, 0);
        int[][] due = {{0, 0, 99}, {4, 0, 99}, {5, 10, 10}, {6, 30, 10}, {719, 30, 10}};
        for (int[] one : due) {
            CHECK.due("the least up to " + one[0], cargo.span(0, 0, 0, one[0], 0), one[1]);
            CHECK.due("the greatest up to " + one[0], cargo.span(0, 0, 0, one[0], 1), one[2]);
        }
        CHECK.due("no HOUR 720", cargo.span(0, 0, 0, 720, 0), NONE);
        CHECK.due("no HOUR -1", cargo.span(0, 0, 0, -1, 1), NONE);
        SoupCargo last = new SoupCargo();
        last.heap(0, 0, 0, 1, 10);
        Scene.passTo(last, 719);
        last.can(0, 0, 0);
        CHECK.due("a can of the last HOUR", last.span(0, 0, 0, 719, 0), 10);
        CHECK.due("not the HOUR before", last.span(0, 0, 0, 718, 0), 0);
    }

    private static void steps() {
        CHECK.by("STEP 0 .. 20 (3 at first)");
        SoupCargo cargo = new SoupCargo();
        cargo.heap(0, 0, 0, 1, 50);
        cargo.can(0, 0, 0);
        CHECK.due("3 at first", cargo.span(0, 1, 0, 0, 0), 47);
        CHECK.yes("step(0)", cargo.step(0));
        CHECK.due("0 goes everywhere", cargo.span(7, 7, 3, 0, 0), 50);
        CHECK.due("0 goes everywhere above", cargo.span(7, 7, 3, 0, 1), 50);
        CHECK.yes("step(20)", cargo.step(20));
        for (int wrong : new int[] {-1, 21, Integer.MIN_VALUE, Integer.MAX_VALUE}) {
            CHECK.no("step(" + wrong + ")", cargo.step(wrong));
            CHECK.due("20 below", cargo.span(1, 1, 0, 0, 0), 10);
            CHECK.due("20 above", cargo.span(1, 1, 0, 0, 1), 90);
        }
    }

    private static void distances() {
        CHECK.by("distance is how far x, y, z are apart, added;");
        SoupCargo cargo = new SoupCargo();
        cargo.step(1);
        for (int z = 0; z < 4; z++) {
            cargo.heap(0, 7, z, 1, 50);
        }
        cargo.can(0, 7, 3);
        int[][] cells = {{0, 7, 3, 0}, {1, 7, 3, 1}, {0, 6, 3, 1}, {0, 7, 2, 1}, {7, 7, 3, 7}, {0, 0, 3, 7}, {0, 7, 0, 3},
            {7, 0, 0, 17}};
        for (int[] one : cells) {
            CHECK.due("the least " + one[3] + " off", cargo.span(one[0], one[1], one[2], 0, 0), 50 - one[3]);
            CHECK.due("the greatest " + one[3] + " off", cargo.span(one[0], one[1], one[2], 0, 1), 50 + one[3]);
        }
    }

    private static void meanEdges() {
        CHECK.by("THE MEAN of THE HEAP lies between the least and the greatest of all CELLS with ORE, by their number.");
        SoupCargo cargo = new SoupCargo();
        for (int corner = 0; corner < 4; corner++) {
            for (int z = 0; z < 4; z++) {
                cargo.heap(corner / 2 * 7, corner % 2 * 7, z, 1, 50);
            }
        }
        CHECK.due("the least without CANS", cargo.mean(0, 0), 0);
        CHECK.due("the greatest without CANS", cargo.mean(0, 1), 99);
        cargo.can(0, 0, 0);
        cargo.step(1);
        int least = 0;
        int greatest = 0;
        for (int corner = 0; corner < 4; corner++) {
            for (int z = 0; z < 4; z++) {
                int distance = corner / 2 * 7 + corner % 2 * 7 + z;
                least += 50 - distance;
                greatest += 50 + distance;
            }
        }
        CHECK.due("the least", cargo.mean(0, 0), least / 16);
        CHECK.due("the greatest", cargo.mean(0, 1), greatest / 16);
        SoupCargo one = new SoupCargo();
        one.heap(7, 7, 0, 1, 9999);
        one.can(7, 7, 0);
        CHECK.due("of one CELL", one.mean(0, 0), 99);
        one.heap(7, 6, 0, 1, 0);
        one.step(20);
        CHECK.due("CELLS with ORE NOW", one.mean(0, 1), 99);
        one.hours(1);
        one.can(7, 6, 0);
        CHECK.due("99 and 79 before, 0 and 20 after: of two", one.mean(1, 1), 10);
        CHECK.due("of an earlier HOUR", one.mean(0, 1), 99);
    }

    private static void meanRefused() {
        CHECK.by("NONE if one can't be (no ORE in THE HEAP; no PAPER, for 2), or another what.");
        SoupCargo cargo = new SoupCargo();
        for (int what = 0; what < 3; what++) {
            CHECK.due("no ORE, no PAPER", cargo.mean(0, what), NONE);
        }
        cargo.paper(0);
        for (int what = 0; what < 3; what++) {
            CHECK.due("no ORE", cargo.mean(0, what), NONE);
        }
        cargo.paper(NONE);
        cargo.heap(0, 0, 0, 1, 0);
        CHECK.due("the least without a PAPER", cargo.mean(0, 0), 0);
        CHECK.due("the greatest without a PAPER", cargo.mean(0, 1), 99);
        CHECK.due("no PAPER", cargo.mean(0, 2), NONE);
        cargo.load(0, 0, 0, 0);
        cargo.paper(50);
        for (int what = 0; what < 3; what++) {
            CHECK.due("ORE in the HOLDS alone", cargo.mean(719, what), NONE);
        }
        cargo.heap(0, 0, 0, 1, 0);
        CHECK.due("both", cargo.mean(719, 2), 1);
        CHECK.due("what 3", cargo.mean(0, 3), NONE);
        CHECK.due("HOUR 720", cargo.mean(720, 2), NONE);
        CHECK.due("HOUR -1", cargo.mean(-1, 2), NONE);
    }

    private static void papers() {
        CHECK.by("THE PAPER says (NONE: there is none): true; false if it can't be.");
        SoupCargo cargo = Scene.withCode("load 0 when said=0; load 1 when said=99; load 2 when said=1;");
        cargo.heap(0, 0, 0, 1, 0);
        CHECK.yes("paper(0)", cargo.paper(0));
        CHECK.due("it says 0", cargo.may(0, 0), 1);
        CHECK.due("it is there", cargo.mean(0, 2), 1);
        CHECK.yes("paper(99)", cargo.paper(99));
        CHECK.due("it says 99", cargo.may(1, 0), 1);
        for (int wrong : new int[] {-2, 100, Integer.MIN_VALUE, Integer.MAX_VALUE}) {
            CHECK.no("paper(" + wrong + ")", cargo.paper(wrong));
            CHECK.due("it still says 99", cargo.may(1, 0), 1);
        }
        CHECK.yes("paper(NONE)", cargo.paper(NONE));
        CHECK.due("there is none", cargo.mean(0, 2), NONE);
        CHECK.due("said is 0 without", cargo.may(0, 0), 1);
    }

    private static void could() {
        CHECK.by("A PAPER says a number 0 .. 99: it COULD be so, if it lies within both ends of THE MEAN.");
        SoupCargo cargo = new SoupCargo();
        cargo.heap(0, 0, 0, 1, 20);
        cargo.heap(1, 0, 0, 1, 20);
        cargo.can(0, 0, 0);
        // (20 + 17) / 2 and (20 + 23) / 2
        int[][] due = {{0, 0}, {17, 0}, {18, 1}, {19, 1}, {21, 1}, {22, 0}, {99, 0}};
        for (int[] one : due) {
            cargo.paper(one[0]);
            CHECK.due("could be " + one[0], cargo.mean(0, 2), one[1]);
        }
        SoupCargo apart = new SoupCargo();
        apart.heap(0, 0, 0, 1, 0);
        apart.heap(0, 1, 0, 1, 90);
        apart.can(0, 0, 0);
        apart.can(0, 1, 0);
        CHECK.due("the least above", apart.mean(0, 0), (87 + 90) / 2);
        CHECK.due("the greatest", apart.mean(0, 1), 3 / 2);
        for (int said : new int[] {0, 1, 50, 88, 99}) {
            apart.paper(said);
            CHECK.due("no number is within ends that cross", apart.mean(0, 2), 0);
        }
        SoupCargo open = new SoupCargo();
        open.heap(0, 0, 0, 1, 0);
        for (int said : new int[] {0, 99}) {
            open.paper(said);
            CHECK.due("all is open without CANS: " + said, open.mean(0, 2), 1);
        }
    }

    private static void fairEmpty() {
        CHECK.by("FAIR for r: the set (of PLACES that were told); NONE if there is none, or one can't be.");
        SoupCargo cargo = new SoupCargo();
        for (int r = 0; r <= 20; r += 20) {
            CHECK.due("no ORE, no PLACE", cargo.fair(r), 0);
        }
        cargo.place(3, 0, 0, 0);
        CHECK.due("no ORE, a PLACE", cargo.fair(0), 0);
        SoupCargo untold = new SoupCargo();
        untold.heap(0, 0, 0, 1, 0);
        CHECK.due("ORE, no PLACE", untold.fair(20), NONE);
        for (int k : new int[] {-1, 8, Integer.MIN_VALUE, Integer.MAX_VALUE}) {
            CHECK.no("place " + k, untold.place(k, 0, 0, 0));
        }
        CHECK.due("no PLACE was told", untold.fair(20), NONE);
        for (int r : new int[] {-1, 21, Integer.MIN_VALUE, Integer.MAX_VALUE}) {
            CHECK.due("r " + r, untold.fair(r), NONE);
            CHECK.due("r " + r + " without ORE", cargo.fair(r), NONE);
        }
        for (int k = 0; k < 8; k++) {
            SoupCargo one = new SoupCargo();
            one.heap(0, 0, 0, 1, 0);
            CHECK.yes("PLACE " + k, one.place(k, 0, 0, 0));
            CHECK.due("the set of PLACE " + k, one.fair(0), 1 << k);
        }
    }

    private static void fairDistance() {
        CHECK.by("A set of them is FAIR, if no CELL with ORE is farther than r (0 .. 20) from one of them");
        SoupCargo cargo = new SoupCargo();
        for (int z = 0; z < 4; z++) {
            cargo.heap(7, 7, z, 1, 0);
        }
        cargo.place(0, 0, 0, 0);
        CHECK.due("17 off, r 17", cargo.fair(17), 1);
        CHECK.due("17 off, r 16", cargo.fair(16), NONE);
        cargo.place(0, 7, 7, 1);
        CHECK.due("2 off, r 2", cargo.fair(2), 1);
        CHECK.due("2 off, r 1", cargo.fair(1), NONE);
        cargo.heap(7, 7, 3, 0, 0);
        CHECK.due("1 off, r 1", cargo.fair(1), 1);
        CHECK.due("1 off, r 0", cargo.fair(0), NONE);
        cargo.heap(7, 7, 2, 0, 0);
        cargo.place(5, 7, 7, 0);
        CHECK.due("0 off, r 0", cargo.fair(0), 33);
    }

    private static void fairFewest() {
        CHECK.by("the fewest; of several the least as a number.");
        SoupCargo cargo = new SoupCargo();
        for (int n = 0; n < 8; n++) {
            cargo.heap(n, n, 0, 1, 0);
            cargo.place(n, n, n, 0);
        }
        CHECK.due("all eight", cargo.fair(0), 255);
        CHECK.due("all eight at r 1 too", cargo.fair(1), 255);
        // each is 2 off its neighbours: 0 for 0 and 1, 3 for 2 to 4, 6 for 5 to 7
        CHECK.due("three at r 2", cargo.fair(2), 1 + 8 + 64);
        CHECK.due("one at r 8", cargo.fair(8), 8);
        CHECK.due("one at r 14", cargo.fair(14), 1);
        SoupCargo last = new SoupCargo();
        last.heap(0, 0, 0, 1, 0);
        last.heap(7, 7, 0, 1, 0);
        last.place(0, 0, 0, 0);
        last.place(1, 7, 7, 0);
        last.place(7, 4, 3, 0);
        CHECK.due("one of a great number is fewer than two", last.fair(7), 128);
        CHECK.due("two", last.fair(6), 3);
    }

    private static void codeAtFirst() {
        CHECK.by("THE CODE on NOW: said (THE PAPER's number, 0 without), can (WET of the last CAN, 0 without)");
        SoupCargo cargo = Scene.withCode("load 0 when said=0; load 1 when can=0; load 2 when can=9999; load 3 when can=4;");
        CHECK.due("said without a PAPER", cargo.may(0, 0), 1);
        CHECK.due("can without a CAN", cargo.may(1, 0), 1);
        cargo.heap(0, 0, 0, 1, 9999);
        cargo.heap(1, 0, 0, 2, 9);
        cargo.can(1, 0, 0);
        CHECK.due("WET of the CAN", cargo.may(3, 0), 1);
        cargo.can(0, 0, 0);
        CHECK.due("WET of the last CAN, as it is", cargo.may(2, 0), 1);
        CHECK.due("a refused CAN", cargo.can(2, 0, 0), NONE);
        CHECK.due("the last is the last", cargo.may(2, 0), 1);
    }

    private static void age() {
        CHECK.by("age (HOURS since it, 99 at most, 99 without)");
        SoupCargo cargo = Scene.withCode("load 0 when age=0; load 1 when age=98; load 2 when age=99; load 3 when age>99;");
        CHECK.due("99 without a CAN", cargo.may(2, 0), 1);
        cargo.hours(10);
        cargo.heap(0, 0, 0, 1, 0);
        cargo.can(0, 0, 0);
        int[][] due = {{0, 1, 0, 0}, {1, 0, 0, 0}, {97, 0, 0, 0}, {98, 0, 1, 0}, {99, 0, 0, 1}, {100, 0, 0, 1}, {700, 0, 0, 1}};
        for (int[] one : due) {
            Scene.passTo(cargo, 10 + one[0]);
            for (int person = 0; person < 3; person++) {
                CHECK.due("after " + one[0], cargo.may(person, 0), one[1 + person]);
            }
            CHECK.due("not above 99", cargo.may(3, 0), 0);
        }
        cargo.can(0, 0, 0);
        CHECK.due("a new CAN is 0 old", cargo.may(0, 0), 1);
    }

    private static void nowOfTheCode() {
        CHECK.by("rain, day, loaded (CELLS in HOLDS with ORE), swell, port (1 in port, else 0)");
        SoupCargo cargo = Scene.withCode("load 0 when loaded=0; load 1 when loaded=144; load 2 when port=1; load 3 when port=0;");
        CHECK.due("nothing loaded", cargo.may(0, 0), 1);
        for (int n = 0; n < 144; n++) {
            Scene.put(cargo, n / 36, n / 6 % 6, 1, 0);
        }
        CHECK.due("all full", cargo.may(1, 0), 1);
        CHECK.due("in port", cargo.may(2, 0), 1);
        CHECK.due("not at SEA", cargo.may(3, 0), 0);
        cargo.sail(0);
        CHECK.due("not in port", cargo.may(2, 0), 0);
        CHECK.due("at SEA", cargo.may(3, 0), 1);
        SoupCargo gone = new SoupCargo();
        Scene.gone(gone);
        gone.end(0);
        Check.code(gone, "load 0 when port=0 and loaded=8;");
        CHECK.due("GONE she is not in port", gone.may(0, 0), 1);
        SoupCargo days = Scene.withCode("load 0 when rain=9; load 1 when swell=8; load 2 when day=1; load 3 when rain=swell;");
        days.sky(1, 9, 8);
        for (int hour : new int[] {23, 24, 47, 48}) {
            Scene.passTo(days, hour);
            int dayOne = hour / 24 == 1 ? 1 : 0;
            CHECK.due("rain at " + hour, days.may(0, 0), dayOne);
            CHECK.due("swell at " + hour, days.may(1, 0), dayOne);
            CHECK.due("day at " + hour, days.may(2, 0), dayOne);
            CHECK.due("neither rain nor swell at " + hour, days.may(3, 0), 1 - dayOne);
        }
    }

    private static void mayEdges() {
        CHECK.by("A PERSON MAY load, MAY stop, MUST test, if some such line of theirs is so.");
        SoupCargo cargo = Scene.withCode("load 0 when 1=2; load 0 when 1=1; load 0 when 1=2; stop 3 when 1=1; test 3 when 1=2;");
        for (int person = 0; person < 4; person++) {
            CHECK.due("MAY load", cargo.may(person, 0), person == 0 ? 1 : 0);
            CHECK.due("MAY stop", cargo.may(person, 1), person == 3 ? 1 : 0);
            CHECK.due("MUST test", cargo.may(person, 2), 0);
            CHECK.due("what 3", cargo.may(person, 3), NONE);
            CHECK.due("what -1", cargo.may(person, -1), NONE);
        }
        for (int what = 0; what < 3; what++) {
            CHECK.due("PERSON 4", cargo.may(4, what), NONE);
            CHECK.due("PERSON -1", cargo.may(-1, what), NONE);
            CHECK.due("no CODE", new SoupCargo().may(0, what), 0);
        }
    }

    private static void ways(String code, int w, int count, int first) {
        SoupCargo cargo = Scene.withCode(code);
        CHECK.due("how many above " + w + " of " + code, cargo.let(w, 0), count);
        CHECK.due("the first above " + w + " of " + code, cargo.let(w, 1), first);
    }

    private static void letRanges() {
        CHECK.by("LET: of all said 0 .. 20, can 0 .. 20, age 0 .. 9, rain 0 .. 9 (day, loaded, swell 0, port 1), can above w");
        ways("load 0 when said=20 and can=20 and age=9 and rain=9;", 19, 1, 20200909);
        ways("load 0 when said=0 and can=1 and age=0 and rain=0;", 0, 1, 10000);
        ways("load 0 when said>20;", 0, 0, NONE);
        ways("load 0 when said<0;", 0, 0, NONE);
        ways("load 0 when can>20;", 0, 0, NONE);
        ways("load 0 when age>9;", 0, 0, NONE);
        ways("load 0 when rain>9;", 0, 0, NONE);
        ways("load 0 when said=20;", 0, 20 * 100, 20010000);
        ways("load 0 when age=9;", 0, 21 * 20 * 10, 10900);
        ways("load 0 when rain=9;", 0, 21 * 20 * 10, 10009);
        ways("load 0 when day=0 and loaded=0 and swell=0 and port=1;", 0, 21 * 20 * 100, 10000);
        ways("load 0 when day>0 or loaded>0 or swell>0 or port=0;", 0, 0, NONE);
        SoupCargo now = new SoupCargo();
        Scene.atSea(now);
        now.end(0);
        Check.code(now, "load 0 when day=0 and loaded=0 and swell=0 and port=1;");
        CHECK.due("NOW does not count", now.let(0, 0), 21 * 20 * 100);
    }

    private static void letAbove() {
        CHECK.by("LET for w 0 .. 20: what 0 how many, 1 the first");
        for (int w = 0; w <= 20; w++) {
            ways("load 0 when 1=1;", w, 21 * (20 - w) * 100, w == 20 ? NONE : 10000 * (w + 1));
        }
        ways("load 0 when can=0;", 0, 0, NONE);
        ways("load 0 when can=7;", 7, 0, NONE);
        ways("load 0 when can=7;", 6, 2100, 70000);
        CHECK.by("NONE if there is none (for 1), one can't be, or another what.");
        SoupCargo cargo = Scene.withCode("load 0 when can<10;");
        CHECK.due("none, how many", cargo.let(9, 0), 0);
        CHECK.due("none, the first", cargo.let(9, 1), NONE);
        for (int w : new int[] {-1, 21, Integer.MIN_VALUE, Integer.MAX_VALUE}) {
            CHECK.due("w " + w, cargo.let(w, 0), NONE);
            CHECK.due("w " + w + ", the first", cargo.let(w, 1), NONE);
        }
        for (int what : new int[] {-1, 2, Integer.MIN_VALUE, Integer.MAX_VALUE}) {
            CHECK.due("what " + what, cargo.let(0, what), NONE);
        }
    }

    private static void letFirst() {
        CHECK.by("how many there are with which somebody MAY load and nobody MAY stop; and the first of them by said, can, age,"
            + " rain.");
        ways("stop 0 when 1=2;", 0, 0, NONE);
        ways("load 0 when 1=1; stop 3 when 1=1;", 0, 0, NONE);
        ways("load 3 when 1=1; stop 0 when 1=2; test 1 when 1=1;", 0, 42000, 10000);
        ways("load 0 when can=2; load 1 when can=3; stop 2 when can=2;", 0, 2100, 30000);
        ways("load 0 when can=2; load 1 when can=2;", 0, 2100, 20000);
        // a lesser said goes before a lesser can, that before a lesser age, that before a lesser rain
        ways("load 0 when said=1 and can=2; load 0 when said=0 and can=19;", 0, 200, 190000);
        ways("load 0 when can=5 and age=9; load 0 when can=6 and age=0;", 0, 420, 50900);
        ways("load 0 when age=5 and rain=9; load 0 when age=6 and rain=0;", 0, 840, 10509);
        ways("load 0 when said=1 and can=2; load 0 when said=0 and can=19;", 19, 0, NONE);
        ways("load 0 when said=1 and can=20; load 0 when said=0 and can=19;", 19, 100, 1200000);
    }

    private static void listEdges() {
        CHECK.by("A LIST of SHIPS (200): a harbour 0 .. 7, a month 0 .. 11, a SORT, LOST or not.");
        SoupCargo cargo = new SoupCargo();
        int[][] wrong = {{-1, 0, 0}, {8, 0, 0}, {0, -1, 0}, {0, 12, 0}, {0, 0, -1}, {0, 0, 3}};
        for (int[] one : wrong) {
            CHECK.due("list", cargo.list(one[0], one[1], one[2], true), NONE);
        }
        CHECK.due("none is listed", cargo.risk(NONE, NONE, NONE, 1), 2);
        CHECK.due("all at their least", cargo.list(0, 0, 0, true), 1);
        CHECK.due("all at their greatest", cargo.list(7, 11, 2, false), 2);
        CHECK.due("the same once more", cargo.list(7, 11, 2, false), 3);
        CHECK.due("LOST of the first", cargo.risk(0, 0, 0, 0), 2);
        CHECK.due("LOST of the others", cargo.risk(7, 11, 2, 0), 1);
        CHECK.due("all of the others", cargo.risk(7, 11, 2, 1), 4);
    }

    private static void listFull() {
        CHECK.by("or there are 200.");
        SoupCargo cargo = new SoupCargo();
        for (int n = 1; n <= 200; n++) {
            CHECK.due("list", cargo.list(7, 11, 2, true), n);
        }
        CHECK.due("the 201st", cargo.list(0, 0, 0, true), NONE);
        CHECK.due("the 202nd", cargo.list(7, 11, 2, false), NONE);
        CHECK.due("LOST of 200", cargo.risk(NONE, NONE, NONE, 0), 201);
        CHECK.due("all of 200", cargo.risk(NONE, NONE, NONE, 1), 202);
        CHECK.due("none of harbour 0", cargo.risk(0, NONE, NONE, 1), 2);
        CHECK.due("THE WORST HARBOUR", cargo.risk(0, 0, 0, 2), 7);
        nothingDone("a 201st ship", Scene::full, twin -> twin.list(0, 0, 0, true));
    }

    private static void riskEdges() {
        CHECK.by("RISK of some (any of these three told or not): (LOST and 1) by (all and 2).");
        SoupCargo cargo = new SoupCargo();
        CHECK.due("LOST of an empty LIST", cargo.risk(NONE, NONE, NONE, 0), 1);
        CHECK.due("all of an empty LIST", cargo.risk(NONE, NONE, NONE, 1), 2);
        CHECK.due("LOST of an empty LIST, all told", cargo.risk(7, 11, 2, 0), 1);
        CHECK.due("all of an empty LIST, all told", cargo.risk(0, 0, 0, 1), 2);
        cargo.list(0, 11, 1, true);
        cargo.list(0, 0, 2, false);
        cargo.list(7, 11, 2, true);
        int[][] due = {{NONE, NONE, NONE, 3, 5}, {0, NONE, NONE, 2, 4}, {7, NONE, NONE, 2, 3}, {NONE, 11, NONE, 3, 4},
            {NONE, 0, NONE, 1, 3}, {NONE, NONE, 2, 2, 4}, {NONE, NONE, 0, 1, 2}, {0, 11, NONE, 2, 3}, {0, NONE, 2, 1, 3},
            {NONE, 11, 2, 2, 3}, {7, 11, 2, 2, 3}, {7, 11, 1, 1, 2}, {1, NONE, NONE, 1, 2}};
        for (int[] one : due) {
            CHECK.due("LOST and 1", cargo.risk(one[0], one[1], one[2], 0), one[3]);
            CHECK.due("all and 2", cargo.risk(one[0], one[1], one[2], 1), one[4]);
        }
    }

    private static void worstHarbour() {
        CHECK.by("WORST HARBOUR: that with SHIPS whose RISK is the greatest; of several the least number.");
        SoupCargo cargo = new SoupCargo();
        for (int n = 0; n < 9; n++) {
            cargo.list(7, 0, 0, false);
        }
        // one without SHIPS has 1 by 2, more than 1 by 11, but does not count
        CHECK.due("the only one with SHIPS", cargo.risk(NONE, NONE, NONE, 2), 7);
        cargo.list(6, 0, 0, false);
        CHECK.due("1 by 3 is above 1 by 11", cargo.risk(NONE, NONE, NONE, 2), 6);
        cargo.list(5, 0, 0, false);
        CHECK.due("of two the least", cargo.risk(NONE, NONE, NONE, 2), 5);
        cargo.list(7, 0, 0, true);
        CHECK.due("2 by 12 is below 1 by 3", cargo.risk(NONE, NONE, NONE, 2), 5);
        cargo.list(7, 0, 0, true);
        cargo.list(7, 0, 0, true);
        cargo.list(7, 0, 0, true);
        CHECK.due("5 by 15 is as much as 1 by 3", cargo.risk(NONE, NONE, NONE, 2), 5);
        cargo.list(7, 0, 0, true);
        CHECK.due("6 by 16 is above 1 by 3", cargo.risk(NONE, NONE, NONE, 2), 7);
        cargo.list(0, 0, 0, true);
        CHECK.due("2 by 3 of harbour 0", cargo.risk(NONE, NONE, NONE, 2), 0);
        CHECK.by("2 THE WORST HARBOUR (nothing of these asked). NONE if one can't be, there is none (for 2), or another what.");
        CHECK.due("nothing of these asked", cargo.risk(Integer.MAX_VALUE, -2, 3, 2), 0);
        CHECK.due("nothing of these asked", cargo.risk(8, Integer.MIN_VALUE, Integer.MAX_VALUE, 2), 0);
        CHECK.due("there is none", new SoupCargo().risk(NONE, NONE, NONE, 2), NONE);
        for (int what : new int[] {-1, 3, Integer.MIN_VALUE, Integer.MAX_VALUE}) {
            CHECK.due("what " + what, cargo.risk(NONE, NONE, NONE, what), NONE);
        }
        for (int wrong : new int[] {-2, Integer.MIN_VALUE, Integer.MAX_VALUE}) {
            for (int what = 0; what < 2; what++) {
                CHECK.due("harbour " + wrong, cargo.risk(wrong, 0, 0, what), NONE);
                CHECK.due("month " + wrong, cargo.risk(0, wrong, 0, what), NONE);
                CHECK.due("SORT " + wrong, cargo.risk(0, 0, wrong, what), NONE);
            }
        }
    }
}
