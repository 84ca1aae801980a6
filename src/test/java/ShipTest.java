/** Promises 12 to 16, 18, 28 and 29: loading, arms, the sea, splits and ports. */
public final class ShipTest {
    private static final Check CHECK = new Check("ShipTest");

    public static void main(String[] args) {
        loading();
        momentAndWeight();
        armsAndLimit();
        sailing();
        nothingInPort();
        shakenAndWell();
        soupAndItsEnd();
        leanToBothSides();
        goneByLean();
        goneByRoll();
        limitAtFirst();
        theDraw();
        flowByHeight();
        flowToAFullColumn();
        flowCarriesAll();
        splits();
        splitsByTheLong();
        ports();
        reachTriesAlone();
        whatTheShipAnswers();
        CHECK.close();
    }

    private static void heightsAre(String when, SoupCargo cargo, String heights) {
        CHECK.due(when + ": heights", Scene.heights(cargo), heights);
    }

    private static void loading() {
        CHECK.by("LOADED: true; false, and nothing is done, if one can't be");
        SoupCargo cargo = new SoupCargo();
        cargo.heap(1, 2, 0, 10, 5);
        cargo.heap(1, 2, 1, 20, 6);
        CHECK.no("no ore", cargo.load(0, 0, 0, 0));
        CHECK.no("x 8", cargo.load(8, 2, 0, 0));
        CHECK.no("y -1", cargo.load(1, -1, 0, 0));
        CHECK.no("hold 4", cargo.load(1, 2, 4, 0));
        CHECK.no("hold -1", cargo.load(1, 2, -1, 0));
        CHECK.no("column 6", cargo.load(1, 2, 0, 6));
        CHECK.no("column -1", cargo.load(1, 2, 0, -1));
        CHECK.yes("the top", cargo.load(1, 2, 3, 5));
        CHECK.due("ore", cargo.cell(3, 5, 0, 0, 0), 20);
        CHECK.due("water", cargo.cell(3, 5, 0, 0, 1), 6);
        CHECK.due("gone from the heap", cargo.cell(-1, 1, 2, 1, 0), 0);
        CHECK.due("its water too", cargo.cell(-1, 1, 2, 1, 1), 0);
        CHECK.due("the other is there", cargo.cell(-1, 1, 2, 0, 0), 10);
        CHECK.due("MOMENT", cargo.ship(2), 5 * 206);
        CHECK.due("WEIGHT", cargo.ship(3), 2206);
        CHECK.yes("on top", cargo.load(1, 2, 3, 5));
        CHECK.due("on top of it", cargo.cell(3, 5, 0, 1, 0), 10);
        for (int n = 2; n < 6; n++) {
            Scene.put(cargo, 3, 5, 1, 0);
        }
        cargo.heap(0, 0, 0, 9, 0);
        CHECK.no("a full column", cargo.load(0, 0, 3, 5));
        CHECK.due("nothing is done", cargo.cell(-1, 0, 0, 0, 0), 9);
        CHECK.due("six cells", cargo.ship(8), 6);
        cargo.sail(0);
        CHECK.no("at sea", cargo.load(0, 0, 0, 0));
        int[] arms = {-5, -3, -1, 1, 3, 5};
        for (int column = 0; column < 6; column++) {
            SoupCargo one = new SoupCargo();
            Scene.put(one, column % 4, column, 1, 3);
            CHECK.due("MOMENT of column " + column, one.ship(2), 13 * arms[column]);
        }
    }

    private static void momentAndWeight() {
        CHECK.by("MOMENT is the sum of (10 ORE + WATER) times ARM of all CELLS in HOLDS, WEIGHT the sum of 10 ORE + WATER, and"
            + " 2000 more.");
        SoupCargo cargo = new SoupCargo();
        int moment = 0;
        int weight = 2000;
        for (int n = 0; n < 100; n++) {
            int column = n * n % 6;
            int ore = 1 + n * 37 % 99;
            int water = n * 613 % 10000;
            if (cargo.cell(n % 4, column, 0, 5, 0) == 0) {
                Scene.put(cargo, n % 4, column, ore, water);
                moment += (10 * ore + water) * (2 * column - 5);
                weight += 10 * ore + water;
            }
            CHECK.due("MOMENT with cell " + n, cargo.ship(2), moment);
            CHECK.due("WEIGHT with cell " + n, cargo.ship(3), weight);
        }
    }

    private static void armsAndLimit() {
        CHECK.by("Her ARM at 10 k degrees (k 0 .. 6; 7: LIMIT): true; false if one can't be.");
        SoupCargo cargo = new SoupCargo();
        int[] first = {0, 20, 40, 50, 40, 20, 0};
        for (int k = 0; k < 7; k++) {
            CHECK.due("arms at first", cargo.arms(10 * k), 10 * first[k]);
        }
        CHECK.by("Her ARMS at 0, 10, .. 60 degrees are told, 0 .. 99 each");
        CHECK.no("k 8", cargo.arm(8, 0));
        CHECK.no("k -1", cargo.arm(-1, 0));
        CHECK.no("v 100", cargo.arm(0, 100));
        CHECK.no("v -1", cargo.arm(6, -1));
        CHECK.no("limit 91", cargo.arm(7, 91));
        CHECK.no("limit -1", cargo.arm(7, -1));
        CHECK.yes("limit 90", cargo.arm(7, 90));
        CHECK.yes("v 99", cargo.arm(0, 99));
        CHECK.yes("v 7", cargo.arm(1, 7));
        CHECK.due("arms(0)", cargo.arms(0), 990);
        CHECK.due("arms(1)", cargo.arms(1), 990 - 92);
        CHECK.due("arms(9)", cargo.arms(9), 990 - 9 * 92);
        CHECK.due("arms(11)", cargo.arms(11), 70 + 33);
        CHECK.due("arms(59)", cargo.arms(59), 20);
        CHECK.due("arms(60)", cargo.arms(60), 0);
        CHECK.due("arms(61)", cargo.arms(61), -1);
        CHECK.due("arms(-1)", cargo.arms(-1), -1);
    }

    private static void sailing() {
        CHECK.by("She goes to SEA with a STATE: true; false if she is there.");
        SoupCargo cargo = new SoupCargo();
        CHECK.due("in port", cargo.ship(1), 0);
        CHECK.yes("sail", cargo.sail(-5));
        CHECK.due("at sea", cargo.ship(1), 1);
        CHECK.no("sail again", cargo.sail(0));
        CHECK.due("no lean ahead of an hour", cargo.ship(4), 0);
        cargo.hours(1);
        CHECK.due("upright", cargo.ship(4), 0);
    }

    private static void nothingInPort() {
        CHECK.by("(In port nothing of this.)");
        SoupCargo cargo = Scene.loaded("down 1; soup 1;", 0, 0, 0, 0, 1, 0);
        cargo.heap(7, 7, 0, 10, 20);
        cargo.load(7, 7, 0, 4);
        cargo.sky(0, 5, 5);
        cargo.hours(3);
        CHECK.due("not shaken", cargo.cell(0, 4, 0, 0, 3), 0);
        CHECK.due("no soup", cargo.ship(9), 0);
        CHECK.due("no water goes down", cargo.cell(0, 4, 0, 1, 1), 20);
        CHECK.due("no well", cargo.ship(6), 0);
        CHECK.due("no lean", cargo.ship(4), 0);
        heightsAre("no flow", cargo, "000020");
    }

    private static void shakenAndWell() {
        CHECK.by("THE SHIP, if she is at SEA: each CELL with ORE is SHAKEN by SWELL more (9999 at most); water goes"
            + " down in the HOLDS likewise (of LAYER 0 into THE WELL)");
        SoupCargo cargo = new SoupCargo();
        Check.laws(cargo, "down shaken; sweat shaken;");
        Scene.put(cargo, 2, 0, 10, 100);
        Scene.put(cargo, 2, 0, 10, 50);
        Scene.put(cargo, 2, 5, 10, 150);
        cargo.sky(0, 9, 4);
        cargo.sky(1, 0, 9);
        cargo.arm(7, 90);
        cargo.sail(0);
        cargo.hours(1);
        CHECK.due("shaken", cargo.cell(2, 0, 0, 1, 3), 4);
        CHECK.due("told shaken", cargo.told(3, 2, 0, 0, 1), 4);
        CHECK.due("no rain in a hold; shaken before it goes down", cargo.cell(2, 0, 0, 1, 1), 46);
        CHECK.due("below it", cargo.cell(2, 0, 0, 0, 1), 100);
        CHECK.due("THE WELL", cargo.ship(6), 8);
        CHECK.due("OUT", cargo.ship(7), 0);
        cargo.hours(1);
        CHECK.due("shaken more", cargo.cell(2, 0, 0, 1, 3), 8);
        cargo.hours(23);
        CHECK.due("shaken by the day's swell", cargo.cell(2, 5, 0, 0, 3), 4 * 24 + 9);
        SoupCargo full = new SoupCargo();
        Check.laws(full, "down 100 when layer=1;");
        Scene.put(full, 0, 0, 1, 9950);
        Scene.put(full, 0, 0, 1, 100);
        Scene.put(full, 0, 5, 1, 9999);
        full.arm(7, 90);
        full.sail(0);
        full.hours(1);
        CHECK.due("a full cell of a hold", full.cell(0, 0, 0, 0, 1), 9999);
        CHECK.due("what is more goes into the well", full.ship(6), 51);
    }

    private static void soupAndItsEnd() {
        CHECK.by("then a CELL with ORE is SOUP, if its LAW soup is above 0.");
        SoupCargo cargo = Scene.loaded("soup 1 when clock=0; soup 0-1;", 0, 0, 0, 0, 0, 2);
        cargo.sail(0);
        cargo.hours(1);
        CHECK.due("soup", cargo.ship(9), 2);
        CHECK.due("soup of a cell", cargo.cell(0, 5, 0, 1, 4), 1);
        cargo.hours(1);
        CHECK.due("no soup any more", cargo.ship(9), 0);
        CHECK.due("none of the cell", cargo.cell(0, 5, 0, 1, 4), 0);
        SoupCargo after = Scene.loaded("down water; soup 1 when wet=0;", 0, 0, 0, 0, 0, 0);
        Scene.put(after, 0, 5, 10, 100);
        after.sail(0);
        after.hours(1);
        CHECK.due("soup is looked at after the water went down", after.ship(9), 1);
    }

    private static void leanToBothSides() {
        CHECK.by("At SEA then she LEANS:");
        for (int side = -1; side <= 1; side += 2) {
            SoupCargo cargo = new SoupCargo();
            // 500 of 2500 at arm 1: 20 * 500 = 10000 is an arm of 4, at 2 degrees
            Scene.put(cargo, 1, side > 0 ? 3 : 2, 50, 0);
            cargo.sail(0);
            cargo.hours(1);
            CHECK.due("LEAN just so", cargo.ship(4), 2 * side);
            SoupCargo more = new SoupCargo();
            Scene.put(more, 1, side > 0 ? 3 : 2, 50, 1);
            more.sail(0);
            more.hours(1);
            CHECK.due("LEAN a little more", more.ship(4), 3 * side);
        }
        SoupCargo stiff = new SoupCargo();
        Scene.put(stiff, 0, 5, 1, 0);
        stiff.arm(0, 99);
        stiff.sail(0);
        stiff.hours(1);
        CHECK.due("no lean with an arm at 0", stiff.ship(4), 0);
    }

    private static void goneByLean() {
        CHECK.by("if there is none she is GONE (LEAN is 61 then, -61 if MOMENT is below 0).");
        for (int side = -1; side <= 1; side += 2) {
            SoupCargo cargo = new SoupCargo();
            Check.laws(cargo, "soup 1; down 1;");
            int high = side > 0 ? 4 : 1;
            for (int n = 0; n < 6; n++) {
                Scene.put(cargo, 0, high, 99, 9000);
            }
            cargo.sky(0, 0, 1);
            cargo.sail(7);
            cargo.heap(0, 0, 0, 10, 100);
            cargo.hours(1);
            CHECK.due("LEAN", cargo.ship(4), 61 * side);
            CHECK.due("GONE", cargo.ship(5), 0);
            heightsAre("no flow when gone", cargo, side > 0 ? "000060" : "060000");
            int well = cargo.ship(6);
            CHECK.due("well of the one hour", well, 1);
            cargo.hours(5);
            CHECK.due("NOW goes on", cargo.ship(0), 6);
            CHECK.due("the well stays", cargo.ship(6), well);
            CHECK.due("shaken stays", cargo.cell(0, high, 0, 0, 3), 1);
            CHECK.due("the heap goes on", cargo.cell(-1, 0, 0, 0, 1), 94);
            CHECK.due("GONE as before", cargo.ship(5), 0);
            CHECK.due("still at sea", cargo.ship(1), 1);
            CHECK.no("no sail", cargo.sail(0));
            cargo.arm(1, 99);
            cargo.arm(2, 99);
            cargo.hours(1);
            CHECK.due("LEAN stays", cargo.ship(4), 61 * side);
        }
    }

    private static void goneByRoll() {
        CHECK.by("if LEAN and that together are above LIMIT (0 .. 90, 60 at first), she is GONE too.");
        SoupCargo cargo = Scene.loaded("soup 1;", 0, 0, 0, 0, 1, 0);
        Scene.put(cargo, 0, 4, 90, 0);
        cargo.sail(0);
        cargo.hours(4);
        int lean = cargo.ship(4);
        CHECK.yes("leans", lean > 0);
        cargo.arm(7, lean);
        cargo.hours(1);
        CHECK.due("not above LIMIT", cargo.ship(5), -1);
        cargo.arm(7, lean - 1);
        cargo.hours(1);
        CHECK.due("above LIMIT", cargo.ship(5), 5);
        CHECK.due("LEAN is what it was", cargo.ship(4), lean);
        SoupCargo port = Scene.loaded("", 0, 1, 0, 0, 0, 0);
        port.arm(7, 0);
        port.sail(0);
        port.hours(1);
        CHECK.yes("leans to port", port.ship(4) < 0);
        CHECK.due("gone by a lean to port", port.ship(5), 0);
        SoupCargo held = Scene.loaded("soup 1;", 0, 0, 0, 0, 2, 0);
        held.arm(7, 0);
        held.sail(0);
        held.hours(1);
        CHECK.due("gone in the first hour", held.ship(5), 0);
        heightsAre("no flow when gone by a roll", held, "000020");
    }

    /** A roll of 27 from 33 degrees is not above 60; from 34 it is. */
    private static void limitAtFirst() {
        CHECK.by("LIMIT (0 .. 90, 60 at first)");
        int state = Scene.stateBefore(3);
        for (int degree = 33; degree <= 34; degree++) {
            SoupCargo cargo = Scene.loaded("", 0, 0, 0, 0, 0, 1);
            for (int k = 0; k < 4; k++) {
                cargo.arm(k, 0);
            }
            // 200 * 500 by 2100 is 48 tenths: 3 times 16, or 4 times 12
            cargo.arm(4, degree == 33 ? 16 : 12);
            cargo.sky(0, 0, 9);
            cargo.sail(state);
            cargo.hours(1);
            CHECK.due("LEAN", cargo.ship(4), degree);
            CHECK.due("GONE at " + degree, cargo.ship(5), degree == 33 ? -1 : 0);
        }
    }

    /** With nothing loaded she is gone in the first hour whose roll is above LIMIT. */
    private static void theDraw() {
        CHECK.by("Else she ROLLS by SWELL times the DRAW (0 .. 3, the highest two bits of STATE, which becomes 1664525"
            + " STATE + 1013904223 first, ints that wrap, 0 at first)");
        for (int start : new int[] {0, 1, -1, 12345, Integer.MIN_VALUE, Integer.MAX_VALUE}) {
            for (int draw = 0; draw < 4; draw++) {
                SoupCargo cargo = new SoupCargo();
                cargo.sky(0, 0, 9);
                cargo.arm(7, Math.max(0, 9 * draw - 1));
                cargo.sail(start);
                cargo.hours(20);
                int state = start;
                int due = -1;
                for (int hour = 0; hour < 20 && due < 0; hour++) {
                    state = state * 1664525 + 1013904223;
                    int drawn = (state >> 30) & 3;
                    due = 9 * drawn > Math.max(0, 9 * draw - 1) ? hour : -1;
                }
                CHECK.due("GONE of " + start + " by " + draw, cargo.ship(5), due);
            }
        }
    }

    private static void flowByHeight() {
        CHECK.by("if its TOP is SOUP, and the next COLUMN to the low side has a HEIGHT that is not more than its own"
            + " less 1, and 1 more if LEAN is 10 or more");
        SoupCargo cargo = Scene.loaded("soup 1;", 0, 0, 0, 0, 3, 2);
        cargo.sail(0);
        cargo.hours(1);
        CHECK.yes("LEAN below 10", cargo.ship(4) < 10);
        heightsAre("one lower", cargo, "000023");
        cargo.hours(1);
        heightsAre("not upwards", cargo, "000023");
        SoupCargo level = Scene.loaded("soup 1;", 0, 0, 0, 0, 2, 2);
        level.sail(0);
        level.hours(1);
        heightsAre("not to the same height", level, "000022");
        SoupCargo steep = Scene.loaded("soup 1;", 0, 0, 0, 0, 2, 2);
        steep.arm(1, 4);
        steep.sail(0);
        steep.hours(1);
        CHECK.yes("LEAN 10 or more", steep.ship(4) >= 10 && steep.ship(4) < 61);
        heightsAre("to the same height", steep, "000013");
        steep.hours(1);
        heightsAre("not to a greater one", steep, "000013");
        SoupCargo chain = Scene.loaded("soup 1;", 1, 1, 1, 1, 1, 2);
        Scene.put(chain, 1, 5, 10, 0);
        chain.arm(1, 1);
        chain.sail(0);
        chain.hours(1);
        CHECK.yes("LEAN 10 or more", chain.ship(4) >= 10 && chain.ship(4) < 61);
        heightsAre("column by column from the low side", chain, "011122");
        SoupCargo port = Scene.loaded("soup 1;", 0, 2, 2, 0, 0, 0);
        port.sail(0);
        port.hours(1);
        CHECK.yes("LEAN to port", port.ship(4) < 0);
        heightsAre("to port", port, "121000");
        SoupCargo upright = Scene.loaded("soup 1;", 0, 1, 0, 0, 1, 0);
        upright.sail(0);
        upright.hours(2);
        heightsAre("upright", upright, "010010");
        SoupCargo dry = Scene.loaded("soup 1 when layer=0;", 0, 0, 0, 0, 2, 0);
        dry.sail(0);
        dry.hours(1);
        heightsAre("the top is no soup", dry, "000020");
    }

    private static void flowToAFullColumn() {
        CHECK.by("if that has a LAYER left.");
        SoupCargo cargo = Scene.loaded("soup 1;", 0, 0, 0, 0, 6, 6);
        cargo.arm(1, 10);
        cargo.sail(0);
        cargo.hours(1);
        CHECK.yes("LEAN 10 or more", cargo.ship(4) >= 10 && cargo.ship(4) < 61);
        heightsAre("no layer left", cargo, "000066");
        CHECK.due("none is lost", cargo.ship(8), 12);
    }

    private static void flowCarriesAll() {
        CHECK.by("TOP (ORE, WATER, SHAKEN, SOUP) goes on top there");
        SoupCargo cargo = Scene.loaded("soup 1 when ore=33;", 0, 0, 0, 0, 0, 0);
        Scene.put(cargo, 3, 3, 10, 4);
        Scene.put(cargo, 3, 3, 33, 17);
        cargo.sky(0, 0, 3);
        cargo.sail(0);
        cargo.hours(1);
        int[] due = {33, 17, 0, 3, 1};
        for (int what = 0; what < 5; what++) {
            CHECK.due("what flowed " + what, cargo.cell(3, 4, 0, 0, what), due[what]);
            CHECK.due("nothing is left " + what, cargo.cell(3, 3, 0, 1, what), 0);
        }
        CHECK.due("MOMENT is of now", cargo.ship(2), 104 + 3 * 347);
    }

    private static void splits() {
        CHECK.by("SPLIT for T CELLS: what 0 WORST, 1 + h how many in HOLD h. NONE if one can't be, or another what.");
        SoupCargo cargo = new SoupCargo();
        CHECK.due("what 5", cargo.split(0, 5), -1);
        CHECK.due("what -1", cargo.split(0, -1), -1);
        CHECK.due("145", cargo.split(145, 0), -1);
        CHECK.due("-1", cargo.split(-1, 0), -1);
        // 37: one full hold and one cell, the first by numbers with the one in hold 2
        int[] due = {5, 0, 0, 1, 36};
        for (int what = 0; what < 5; what++) {
            CHECK.due("split 37 " + what, cargo.split(37, what), due[what]);
        }
        int[] eighteen = {54, 0, 0, 0, 18};
        for (int what = 0; what < 5; what++) {
            CHECK.due("split 18 " + what, cargo.split(18, what), eighteen[what]);
        }
    }

    private static void splitsByTheLong() {
        CHECK.by("that fill COLUMNS from the starboard side on (6 each), added for all HOLDS.");
        Model model = new Model();
        for (int cells = 0; cells <= 144; cells++) {
            SoupCargo cargo = new SoupCargo();
            int sum = 0;
            int worst = 0;
            for (int what = 0; what < 5; what++) {
                CHECK.due("split " + cells + " " + what, cargo.split(cells, what), model.split(cells, what));
                sum += what > 0 ? cargo.split(cells, what) : 0;
                worst += what > 0 ? worstOf(cargo.split(cells, what)) : 0;
            }
            CHECK.due("all cells of " + cells, sum, cells);
            CHECK.due("WORST of " + cells, cargo.split(cells, 0), worst);
        }
    }

    private static int worstOf(int cells) {
        int worst = 0;
        for (int n = 0; n < cells; n++) {
            worst += 5 - 2 * (n / 6);
        }
        return worst;
    }

    private static void ports() {
        CHECK.by("PORT k: 1 if she REACHES it, else 0 (k NONE: THE BEST, NONE if none is reached).");
        SoupCargo cargo = new SoupCargo();
        CHECK.due("port(0)", cargo.port(0), -1);
        CHECK.due("port(401)", cargo.port(401), -1);
        CHECK.due("port(-1)", cargo.port(-1), -1);
        int[] hours = {400, 7, 3, 3, 1, 250};
        for (int k = 0; k < 6; k++) {
            CHECK.due("port " + k, cargo.port(hours[k]), k);
        }
        CHECK.due("a seventh", cargo.port(5), -1);
        CHECK.due("in port", cargo.reach(0), -1);
        CHECK.due("the best in port", cargo.reach(-1), -1);
        cargo.sail(0);
        CHECK.due("reach(6)", cargo.reach(6), -1);
        CHECK.due("reach(-2)", cargo.reach(-2), -1);
        CHECK.due("the nearest is the best", cargo.reach(-1), 4);
        CHECK.due("the farthest", cargo.reach(0), 1);
        SoupCargo none = new SoupCargo();
        none.sail(0);
        CHECK.due("no port", none.reach(0), -1);
        CHECK.due("no best", none.reach(-1), -1);
        SoupCargo late = new SoupCargo();
        late.sail(0);
        late.port(400);
        late.port(48);
        late.port(47);
        late.port(47);
        for (int i = 0; i < 14; i++) {
            late.hours(48);
        }
        CHECK.due("beyond 719", late.reach(0), -1);
        CHECK.due("to 720", late.reach(1), -1);
        CHECK.due("to 719", late.reach(2), 1);
        CHECK.due("of two the least number", late.reach(-1), 2);
        late.hours(1);
        CHECK.due("none is left", late.reach(-1), -1);
    }

    private static void reachTriesAlone() {
        CHECK.by("Turned to one, at SEA from NOW on, she REACHES it, if she is not GONE by then, all led as in 2.");
        SoupCargo cargo = Scene.loaded("soup 1; down 1 when clock>1;", 0, 0, 1, 1, 0, 0);
        Scene.put(cargo, 1, 3, 90, 50);
        cargo.sky(0, 1, 2);
        cargo.sky(1, 0, 9);
        cargo.arm(7, 26);
        int gone = goneHourOf(0, cargo);
        CHECK.yes("gone on the second day", gone >= 24);
        SoupCargo other = Scene.loaded("soup 1; down 1 when clock>1;", 0, 0, 1, 1, 0, 0);
        Scene.put(other, 1, 3, 90, 50);
        other.sky(0, 1, 2);
        other.sky(1, 0, 9);
        other.arm(7, 26);
        other.port(gone);
        other.port(gone + 1);
        other.sail(0);
        CHECK.due("a port as far as she lasts", other.reach(0), 1);
        CHECK.due("a port an hour farther", other.reach(1), 0);
        CHECK.due("the best", other.reach(-1), 0);
        CHECK.due("NOW is the same", other.ship(0), 0);
        CHECK.due("not shaken", other.cell(1, 3, 0, 0, 3), 0);
        CHECK.due("not gone", other.ship(5), -1);
        CHECK.due("no lean", other.ship(4), 0);
        CHECK.due("no well", other.ship(6), 0);
        other.hours(1);
        CHECK.due("an hour nearer to her end", other.reach(0), 0);
        CHECK.due("no best any more", other.reach(-1), -1);
        while (other.ship(5) < 0) {
            other.hours(1);
        }
        CHECK.due("gone in the same hour", other.ship(5), gone);
        CHECK.due("gone she reaches none", other.reach(0), -1);
        CHECK.due("gone she has no best", other.reach(-1), -1);
    }

    private static void whatTheShipAnswers() {
        CHECK.by("What 0 NOW, 1 1 at SEA, else 0, 2 MOMENT, 3 WEIGHT, 4 LEAN in the last HOUR at SEA");
        SoupCargo cargo = Scene.loaded("down layer*3+1; soup ore-10;", 0, 0, 1, 0, 0, 2);
        Scene.put(cargo, 3, 2, 11, 7);
        cargo.heap(4, 4, 0, 5, 60);
        cargo.sort(1);
        cargo.hours(9);
        // 3 times 100 at ARM 5, -1 and 5, and 117 at ARM -1
        shipIs("in port", cargo, 9, 0, 1000 - 100 - 117, 2417, 0, -1, 0, 9, 4, 0, 1);
        cargo.sail(0);
        cargo.hours(1);
        CHECK.by("6 THE WELL, 7 OUT, 8 CELLS in HOLDS with ORE, 9 CELLS that are SOUP, 10 SORT.");
        // 20 * 784 by 2416 is an ARM of 6.49; the soup has flowed to ARM 1
        shipIs("at sea", cargo, 10, 1, 1000 - 100 + 116, 2416, 4, -1, 1, 10, 4, 1, 1);
        cargo.arm(7, 3);
        cargo.hours(1);
        CHECK.by("5 the HOUR in which she was GONE (NONE)");
        // 20 * 1015 by 2415 is an ARM of 8.4; gone, so that nothing flows
        shipIs("gone", cargo, 11, 1, 1000 - 100 + 115, 2415, 5, 10, 2, 11, 4, 1, 1);
    }

    private static void shipIs(String when, SoupCargo cargo, int... due) {
        for (int what = 0; what < due.length; what++) {
            CHECK.due("ship(" + what + ") " + when, cargo.ship(what), due[what]);
        }
    }

    private static int goneHourOf(int state, SoupCargo cargo) {
        cargo.sail(state);
        for (int i = 0; i < 14 && cargo.ship(5) < 0; i++) {
            cargo.hours(48);
        }
        return cargo.ship(5);
    }
}
