/** Promises 19 to 27, 30 and 31: cans, spans, papers, places, the code, and the list. */
public final class PaperTest {
    private static final Check CHECK = new Check("PaperTest");

    public static void main(String[] args) {
        cans();
        spans();
        means();
        couldBeSo();
        fairSets();
        mayByNow();
        waysThroughTheCode();
        theList();
        theWorstHarbour();
        CHECK.close();
    }

    private static void cans() {
        CHECK.by("A CAN: its number; NONE if there is no ORE, one can't be, or there are 60.");
        SoupCargo cargo = new SoupCargo();
        cargo.heap(0, 0, 0, 2, 9);
        CHECK.due("no ore", cargo.can(0, 0, 1), -1);
        CHECK.due("x 8", cargo.can(8, 0, 0), -1);
        CHECK.due("y -1", cargo.can(0, -1, 0), -1);
        CHECK.due("z 4", cargo.can(0, 0, 4), -1);
        for (int n = 0; n < 60; n++) {
            CHECK.due("can " + n, cargo.can(0, 0, 0), n);
        }
        CHECK.due("the 61st", cargo.can(0, 0, 0), -1);
        CHECK.due("its wet", cargo.span(0, 0, 0, 0, 0), 4);
    }

    private static void spans() {
        CHECK.by("A SPAN for a CELL as of CANS up to an HOUR: between the greatest of (a CAN's WET less STEP times its"
            + " distance) and the least of (WET and STEP times distance)");
        SoupCargo cargo = new SoupCargo();
        CHECK.no("step(21)", cargo.step(21));
        CHECK.no("step(-1)", cargo.step(-1));
        cargo.heap(2, 2, 0, 1, 40);
        cargo.heap(7, 7, 0, 1, 9999);
        CHECK.due("without cans", cargo.span(2, 2, 0, 0, 0), 0);
        CHECK.due("without cans, above", cargo.span(2, 2, 0, 0, 1), 99);
        cargo.can(2, 2, 0);
        CHECK.due("a step of 3 at first", cargo.span(0, 5, 3, 0, 0), 40 - 3 * 8);
        CHECK.due("above", cargo.span(0, 5, 3, 0, 1), 40 + 3 * 8);
        cargo.heap(2, 2, 0, 1, 90);
        CHECK.due("wet of then", cargo.span(2, 2, 0, 0, 0), 40);
        cargo.hours(2);
        cargo.can(7, 7, 0);
        CHECK.due("up to an hour", cargo.span(7, 7, 0, 1, 0), 10);
        CHECK.due("held to 99", cargo.span(7, 7, 0, 2, 0), 99);
        CHECK.due("above below the least", cargo.span(7, 7, 0, 2, 1), 70);
        CHECK.yes("step(20)", cargo.step(20));
        CHECK.due("held to 0", cargo.span(7, 7, 0, 1, 0), 0);
        CHECK.due("held to 99 above", cargo.span(7, 7, 0, 1, 1), 99);
        CHECK.yes("step(0)", cargo.step(0));
        CHECK.due("no step", cargo.span(0, 0, 3, 0, 0), 40);
        CHECK.due("hour 720", cargo.span(0, 0, 0, 720, 0), -1);
        CHECK.due("hour -1", cargo.span(0, 0, 0, -1, 0), -1);
        CHECK.due("hour 719", cargo.span(0, 0, 0, 719, 1), 40);
        CHECK.due("what 2", cargo.span(0, 0, 0, 0, 2), -1);
        CHECK.due("what -1", cargo.span(0, 0, 0, 0, -1), -1);
        CHECK.due("x 8", cargo.span(8, 0, 0, 0, 0), -1);
        CHECK.due("z -1", cargo.span(0, 0, -1, 0, 0), -1);
    }

    private static void means() {
        CHECK.by("THE MEAN as of CANS up to an HOUR: what 0 the least, 1 the greatest");
        SoupCargo cargo = new SoupCargo();
        CHECK.due("no ore", cargo.mean(0, 0), -1);
        cargo.paper(5);
        CHECK.due("no ore, with a paper", cargo.mean(0, 2), -1);
        cargo.heap(0, 0, 0, 1, 10);
        cargo.heap(0, 0, 1, 1, 20);
        cargo.heap(0, 1, 0, 1, 30);
        CHECK.due("without cans", cargo.mean(0, 0), 0);
        CHECK.due("without cans, above", cargo.mean(0, 1), 99);
        cargo.can(0, 0, 0);
        CHECK.due("the least, downwards", cargo.mean(0, 0), 24 / 3);
        CHECK.due("the greatest", cargo.mean(0, 1), 36 / 3);
        cargo.step(4);
        cargo.heap(0, 1, 1, 1, 0);
        CHECK.due("the least of four", cargo.mean(0, 0), (10 + 6 + 6 + 2) / 4);
        CHECK.due("the greatest of four", cargo.mean(0, 1), (10 + 14 + 14 + 18) / 4);
        cargo.step(1);
        cargo.heap(0, 1, 1, 0, 0);
        CHECK.due("downwards", cargo.mean(0, 0), 28 / 3);
        CHECK.due("downwards above", cargo.mean(0, 1), 32 / 3);
        cargo.hours(1);
        cargo.can(0, 1, 0);
        CHECK.due("as of an earlier hour", cargo.mean(0, 0), 9);
        CHECK.due("as of now", cargo.mean(1, 0), (29 + 28 + 30) / 3);
        CHECK.due("above as of now", cargo.mean(1, 1), (10 + 11 + 11) / 3);
        CHECK.due("hour 720", cargo.mean(720, 0), -1);
        CHECK.due("hour -1", cargo.mean(-1, 0), -1);
        CHECK.due("what 3", cargo.mean(0, 3), -1);
        CHECK.due("what -1", cargo.mean(0, -1), -1);
    }

    private static void couldBeSo() {
        CHECK.by("2 1 if THE PAPER COULD be so, else 0.");
        SoupCargo cargo = new SoupCargo();
        cargo.heap(0, 0, 0, 1, 20);
        cargo.heap(1, 0, 0, 1, 20);
        cargo.can(0, 0, 0);
        CHECK.due("no paper", cargo.mean(0, 2), -1);
        CHECK.no("paper(100)", cargo.paper(100));
        CHECK.no("paper(-2)", cargo.paper(-2));
        CHECK.due("still none", cargo.mean(0, 2), -1);
        for (int v = 0; v <= 99; v++) {
            CHECK.yes("paper " + v, cargo.paper(v));
            CHECK.due("could " + v, cargo.mean(0, 2), v >= 37 / 2 && v <= 43 / 2 ? 1 : 0);
        }
        CHECK.no("paper(100)", cargo.paper(100));
        CHECK.due("it stays", cargo.mean(0, 2), 0);
        CHECK.yes("no paper any more", cargo.paper(-1));
        CHECK.due("none", cargo.mean(0, 2), -1);
    }

    private static void fairSets() {
        CHECK.by("FAIR: PLACES 0 .. 7 (CELLS) are told.");
        SoupCargo cargo = new SoupCargo();
        CHECK.due("no ore, no place", cargo.fair(0), 0);
        CHECK.due("r 21", cargo.fair(21), -1);
        CHECK.due("r -1", cargo.fair(-1), -1);
        cargo.heap(0, 0, 0, 1, 0);
        CHECK.due("ore and no place", cargo.fair(20), -1);
        CHECK.no("place 8", cargo.place(8, 0, 0, 0));
        CHECK.no("place -1", cargo.place(-1, 0, 0, 0));
        CHECK.no("x 8", cargo.place(0, 8, 0, 0));
        CHECK.no("y 8", cargo.place(0, 0, 8, 0));
        CHECK.no("z 4", cargo.place(0, 0, 0, 4));
        CHECK.due("still no place", cargo.fair(20), -1);
        CHECK.yes("place 3", cargo.place(3, 0, 0, 2));
        CHECK.due("as far as r", cargo.fair(2), 8);
        CHECK.due("farther than r", cargo.fair(1), -1);
        CHECK.yes("place 7", cargo.place(7, 7, 7, 3));
        cargo.heap(7, 7, 0, 1, 0);
        CHECK.due("two", cargo.fair(3), 128 + 8);
        CHECK.due("one is enough", cargo.fair(17), 8);
        cargo.place(0, 0, 0, 0);
        CHECK.due("of several the least", cargo.fair(3), 128 + 1);
        CHECK.due("of several single ones the least", cargo.fair(17), 1);
        cargo.place(1, 4, 3, 0);
        CHECK.due("the fewest first", cargo.fair(7), 2);
        CHECK.yes("a place told again", cargo.place(1, 0, 7, 0));
        CHECK.due("it is elsewhere now", cargo.fair(7), 2);
        CHECK.due("it is elsewhere for r 6", cargo.fair(6), 128 + 1);
        cargo.heap(0, 0, 0, 0, 0);
        cargo.heap(7, 7, 0, 0, 0);
        CHECK.due("no ore any more", cargo.fair(0), 0);
    }

    private static void mayByNow() {
        CHECK.by("THE CODE on NOW for a PERSON: what 0 MAY load, 1 MAY stop, 2 MUST test: 1 or 0.");
        SoupCargo cargo = new SoupCargo();
        CHECK.due("no code", cargo.may(0, 0), 0);
        CHECK.due("person 4", cargo.may(4, 0), -1);
        CHECK.due("person -1", cargo.may(-1, 0), -1);
        CHECK.due("what 3", cargo.may(0, 3), -1);
        CHECK.due("what -1", cargo.may(0, -1), -1);
        Check.code(cargo, "load 0 when said=0 and can=0 and age=99 and rain=0 and day=0 and loaded=0 and swell=0 and port=1;"
            + "stop 1 when said=7 and can=4; stop 1 when age=98; test 1 when age=99; load 3 when rain=8 and day=1"
            + " and loaded=2 and swell=6 and port=0; load 3 when 1=2; test 2 when age=0;");
        CHECK.due("all as at first", cargo.may(0, 0), 1);
        CHECK.due("another person", cargo.may(1, 0), 0);
        CHECK.due("another word", cargo.may(0, 1), 0);
        CHECK.due("must test without a can", cargo.may(1, 2), 1);
        cargo.paper(7);
        cargo.heap(0, 0, 0, 2, 9);
        cargo.heap(0, 0, 1, 2, 5);
        cargo.can(0, 0, 1);
        CHECK.due("can is 2", cargo.may(1, 1), 0);
        cargo.can(0, 0, 0);
        CHECK.due("the last can counts", cargo.may(1, 1), 1);
        CHECK.due("age 0", cargo.may(2, 2), 1);
        cargo.paper(-1);
        CHECK.due("no paper is 0", cargo.may(1, 1), 0);
        cargo.sky(1, 8, 6);
        cargo.load(0, 0, 2, 2);
        cargo.load(0, 0, 2, 2);
        cargo.hours(24);
        CHECK.due("in port", cargo.may(3, 0), 0);
        cargo.sail(0);
        CHECK.due("at sea", cargo.may(3, 0), 1);
        cargo.hours(48);
        cargo.hours(26);
        CHECK.due("age 98", cargo.may(1, 1), 1);
        cargo.hours(1);
        CHECK.due("age 99", cargo.may(1, 2), 1);
        cargo.hours(1);
        CHECK.due("age is 99 at most", cargo.may(1, 2), 1);
    }

    private static void waysThroughTheCode() {
        CHECK.by("LET for w 0 .. 20: what 0 how many, 1 the first (said, can, age, rain as 1000000 said + 10000 can +"
            + " 100 age + rain).");
        SoupCargo cargo = new SoupCargo();
        CHECK.due("nobody", cargo.let(0, 0), 0);
        CHECK.due("no first", cargo.let(0, 1), -1);
        CHECK.due("w 21", cargo.let(21, 0), -1);
        CHECK.due("w -1", cargo.let(-1, 0), -1);
        CHECK.due("what 2", cargo.let(0, 2), -1);
        CHECK.due("what -1", cargo.let(0, -1), -1);
        Check.code(cargo, "load 2 when day=0 and loaded=0 and swell=0 and port=1;");
        CHECK.due("all above 0", cargo.let(0, 0), 21 * 20 * 100);
        CHECK.due("the first above 0", cargo.let(0, 1), 10000);
        CHECK.due("what 2 with ways", cargo.let(0, 2), -1);
        CHECK.due("what -1 with ways", cargo.let(0, -1), -1);
        CHECK.due("w 21 with ways", cargo.let(21, 0), -1);
        CHECK.due("w -1 with ways", cargo.let(-1, 0), -1);
        CHECK.due("above 19", cargo.let(19, 0), 21 * 100);
        CHECK.due("above 20", cargo.let(20, 0), 0);
        CHECK.due("none above 20", cargo.let(20, 1), -1);
        Check.code(cargo, "load 2 when said*2>can+10 and age+rain>16; stop 0 when rain=9; stop 3 when can<5 and said<20;"
            + "test 1 when 1=1; load 1 when can=20 and rain=9;");
        int ways = 0;
        int first = -1;
        for (int said = 0; said <= 20; said++) {
            for (int can = 4; can <= 20; can++) {
                if (2 * said > can + 10 && (can >= 5 || said == 20)) {
                    // age 9 with rain 8 alone: 17
                    ways++;
                    first = first < 0 ? 1000000 * said + 10000 * can + 908 : first;
                }
            }
        }
        CHECK.due("ways", cargo.let(3, 0), ways);
        CHECK.due("the first", cargo.let(3, 1), first);
        cargo.sky(0, 9, 9);
        cargo.sail(0);
        CHECK.due("NOW is not asked", cargo.let(3, 0), ways);
        cargo.may(0, 0);
        CHECK.due("nor what was asked before", cargo.let(3, 1), first);
        Check.code(cargo, "load 2 when said=3 and can=9; load 2 when said=2 and can=20;");
        CHECK.due("a new code", cargo.let(8, 0), 200);
        CHECK.due("by said first", cargo.let(8, 1), 2200000);
        Check.code(cargo, "load 0 when day>0 or swell>0 or loaded>0 or port=0;");
        CHECK.due("day, loaded, swell 0, port 1", cargo.let(0, 0), 0);
    }

    private static void theList() {
        CHECK.by("A SHIP on the LIST: how many; NONE if one can't be, or there are 200.");
        SoupCargo cargo = new SoupCargo();
        CHECK.due("harbour 8", cargo.list(8, 0, 0, true), -1);
        CHECK.due("harbour -1", cargo.list(-1, 0, 0, true), -1);
        CHECK.due("month 12", cargo.list(0, 12, 0, true), -1);
        CHECK.due("month -1", cargo.list(0, -1, 0, true), -1);
        CHECK.due("sort 3", cargo.list(0, 0, 3, true), -1);
        CHECK.due("sort -1", cargo.list(0, 0, -1, true), -1);
        CHECK.due("none", cargo.risk(-1, -1, -1, 1), 2);
        CHECK.due("no worst", cargo.risk(-1, -1, -1, 2), -1);
        for (int n = 0; n < 200; n++) {
            CHECK.due("list " + n, cargo.list(n % 8, n % 12, n % 3, n % 5 == 0), n + 1);
        }
        CHECK.due("the 201st", cargo.list(0, 0, 0, true), -1);
        CHECK.by("RISK (harbour, month, sort: NONE not told): what 0 LOST and 1, 1 all and 2;");
        for (int harbour = -1; harbour < 8; harbour++) {
            risksOf(harbour);
        }
        CHECK.due("risk of harbour 8", cargo.risk(8, -1, -1, 0), -1);
        CHECK.due("risk of harbour -2", cargo.risk(-2, -1, -1, 0), -1);
        CHECK.due("risk of month 12", cargo.risk(-1, 12, -1, 1), -1);
        CHECK.due("risk of month -2", cargo.risk(-1, -2, -1, 1), -1);
        CHECK.due("risk of sort 3", cargo.risk(-1, -1, 3, 1), -1);
        CHECK.due("risk of sort -2", cargo.risk(-1, -1, -2, 1), -1);
        CHECK.due("risk of what 3", cargo.risk(-1, -1, -1, 3), -1);
        CHECK.due("risk of what -1", cargo.risk(-1, -1, -1, -1), -1);
    }

    private static void risksOf(int harbour) {
        SoupCargo cargo = new SoupCargo();
        for (int n = 0; n < 200; n++) {
            cargo.list(n % 8, n % 12, n % 3, n % 5 == 0);
        }
        for (int month = -1; month < 12; month++) {
            for (int sort = -1; sort < 3; sort++) {
                int all = 0;
                int lost = 0;
                for (int n = 0; n < 200; n++) {
                    boolean is = (harbour < 0 || n % 8 == harbour) && (month < 0 || n % 12 == month)
                        && (sort < 0 || n % 3 == sort);
                    all += is ? 1 : 0;
                    lost += is && n % 5 == 0 ? 1 : 0;
                }
                CHECK.due("lost and 1", cargo.risk(harbour, month, sort, 0), lost + 1);
                CHECK.due("all and 2", cargo.risk(harbour, month, sort, 1), all + 2);
            }
        }
    }

    private static void theWorstHarbour() {
        CHECK.by("WORST HARBOUR: that with SHIPS whose RISK is the greatest; of several the least number.");
        SoupCargo cargo = new SoupCargo();
        cargo.list(5, 0, 0, false);
        CHECK.due("the only one", cargo.risk(-1, -1, -1, 2), 5);
        CHECK.due("nothing of these asked", cargo.risk(99, -99, 99, 2), 5);
        cargo.list(6, 0, 0, false);
        CHECK.due("of two the least", cargo.risk(-1, -1, -1, 2), 5);
        cargo.list(5, 0, 0, false);
        CHECK.due("1 by 3 is more than 1 by 4", cargo.risk(-1, -1, -1, 2), 6);
        cargo.list(7, 1, 1, true);
        CHECK.due("2 by 3", cargo.risk(-1, -1, -1, 2), 7);
        cargo.list(2, 1, 1, true);
        CHECK.due("the same at a lesser number", cargo.risk(-1, -1, -1, 2), 2);
        cargo.list(2, 1, 1, true);
        cargo.list(2, 1, 1, false);
        CHECK.due("3 by 5 is less than 2 by 3", cargo.risk(-1, -1, -1, 2), 7);
    }
}
