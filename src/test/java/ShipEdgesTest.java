import java.util.function.Consumer;

/** The edges of the ship, sentence by sentence: terms 1, 2 and 4, promises 12 to 16, 18, 28 and 29. */
public final class ShipEdgesTest {
    private static final int NONE = SoupCargo.NONE;
    private static final Check CHECK = new Check("ShipEdgesTest");

    public static void main(String[] args) {
        holdEdges();
        loadRefused();
        loadedNotShaken();
        armsAtFirst();
        armsBetween();
        sailTwice();
        nothingInPort();
        shaken();
        downInTheHolds();
        soupAboveNothing();
        leastLean();
        leanOfSixty();
        goneByLean();
        sides();
        limitEdges();
        draws();
        stateWraps();
        flowEdges();
        flowSides();
        layerLeft();
        goneForEver();
        shipAnswers();
        splitEdges();
        worstOfOneHold();
        portEdges();
        reachRefused();
        reachEdges();
        reachLeadsAll();
        bestEdges();
        CHECK.close();
    }

    private static void holdEdges() {
        CHECK.by("THE SHIP has HOLDS 0 .. 3, each of COLUMNS 0 .. 5 (from port to starboard; ARM -5, -3, -1, 1, 3, 5) of"
            + " LAYERS 0 .. 5.");
        int[] arms = {-5, -3, -1, 1, 3, 5};
        for (int hold = 0; hold < 4; hold++) {
            for (int column = 0; column < 6; column++) {
                SoupCargo cargo = new SoupCargo();
                for (int z = 0; z < 6; z++) {
                    Scene.put(cargo, hold, column, 10 + z, z);
                    CHECK.due("LAYER " + z, cargo.cell(hold, column, 0, z, 0), 10 + z);
                }
                CHECK.due("MOMENT by ARM", cargo.ship(2), (10 * 75 + 15) * arms[column]);
                CHECK.due("WEIGHT", cargo.ship(3), 2000 + 10 * 75 + 15);
                CHECK.due("CELLS", cargo.ship(8), 6);
            }
        }
    }

    private static void loadRefused() {
        CHECK.by("(no ORE in the COLUMN x, y; the HOLD's COLUMN full; at SEA)");
        SoupCargo empty = new SoupCargo();
        CHECK.no("no ORE", empty.load(0, 0, 0, 0));
        empty.heap(0, 0, 0, 1, 0);
        CHECK.yes("the last ORE", empty.load(0, 0, 0, 0));
        CHECK.no("no ORE any more", empty.load(0, 0, 0, 0));
        nothingDone("no ORE", Scene::inPort, cargo -> cargo.load(1, 1, 0, 0));
        SoupCargo full = new SoupCargo();
        Scene.full(full);
        CHECK.no("a full COLUMN", full.load(0, 0, 2, 5));
        CHECK.yes("the COLUMN beside it", full.load(0, 0, 2, 4));
        nothingDone("a full COLUMN", Scene::full, cargo -> cargo.load(0, 0, 2, 5));
        SoupCargo five = new SoupCargo();
        for (int n = 0; n < 5; n++) {
            Scene.put(five, 0, 0, 1, 0);
        }
        five.heap(0, 0, 0, 9, 0);
        CHECK.yes("the sixth of a COLUMN", five.load(0, 0, 0, 0));
        SoupCargo sea = new SoupCargo();
        Scene.atSea(sea);
        CHECK.no("at SEA", sea.load(0, 0, 0, 0));
        nothingDone("at SEA", Scene::atSea, cargo -> cargo.load(0, 0, 0, 0));
        nothingDone("GONE", Scene::gone, cargo -> cargo.load(0, 0, 0, 0));
    }

    private static void nothingDone(String what, Consumer<SoupCargo> past, Consumer<SoupCargo> refused) {
        CHECK.due("the view that tells that something was done: " + what, Twins.toldApart(past, refused), -1);
    }

    private static void loadedNotShaken() {
        CHECK.by("LOADED: a TOP of THE HEAP goes on top of a COLUMN of a HOLD (in port alone), not shaken.");
        SoupCargo cargo = Scene.withLaws("soup 1;");
        cargo.heap(0, 0, 0, 99, 9999);
        cargo.heap(0, 0, 1, 1, 0);
        cargo.heap(0, 0, 2, 7, 8);
        cargo.heap(0, 0, 3, 5, 6);
        int[][] due = {{5, 6}, {7, 8}, {1, 0}, {99, 9999}};
        for (int n = 0; n < 4; n++) {
            CHECK.yes("load", cargo.load(0, 0, 3, 0));
            CHECK.due("ORE", cargo.cell(3, 0, 0, n, 0), due[n][0]);
            CHECK.due("WATER", cargo.cell(3, 0, 0, n, 1), due[n][1]);
            CHECK.due("not SHAKEN", cargo.cell(3, 0, 0, n, 3), 0);
            CHECK.due("no SOUP yet", cargo.cell(3, 0, 0, n, 4), 0);
            CHECK.due("no ORE is left there", cargo.cell(NONE, 0, 0, 3 - n, 0), 0);
            CHECK.due("no WATER is left there", cargo.cell(NONE, 0, 0, 3 - n, 1), 0);
        }
        CHECK.yes("the heap can be built anew", cargo.heap(0, 0, 0, 1, 0));
    }

    private static void armsAtFirst() {
        CHECK.by("0 .. 99 each (0, 20, 40, 50, 40, 20, 0 at first)");
        int[] first = {0, 20, 40, 50, 40, 20, 0};
        for (int k = 0; k < 7; k++) {
            SoupCargo cargo = new SoupCargo();
            CHECK.due("at first at " + k, cargo.arms(10 * k), 10 * first[k]);
            CHECK.yes("99", cargo.arm(k, 99));
            CHECK.due("99 at " + k, cargo.arms(10 * k), 990);
            CHECK.no("100", cargo.arm(k, 100));
            CHECK.no("-1", cargo.arm(k, -1));
            CHECK.due("as it was at " + k, cargo.arms(10 * k), 990);
            CHECK.yes("0", cargo.arm(k, 0));
            CHECK.due("0 at " + k, cargo.arms(10 * k), 0);
            for (int other = 0; other < 7; other++) {
                CHECK.due("the others", cargo.arms(10 * other), other == k ? 0 : 10 * first[other]);
            }
        }
    }

    private static void armsBetween() {
        CHECK.by("between them in tenths, in proportion.");
        SoupCargo cargo = new SoupCargo();
        int[] told = {99, 0, 7, 99, 1, 0, 98};
        for (int k = 0; k < 7; k++) {
            cargo.arm(k, told[k]);
        }
        for (int degree = 0; degree <= 60; degree++) {
            int k = degree / 10;
            int next = degree == 60 ? 0 : told[k + 1];
            int due = (10 - degree % 10) * told[k] + degree % 10 * next;
            CHECK.due("arms(" + degree + ")", cargo.arms(degree), due);
        }
        CHECK.due("LIMIT is no ARM", cargo.arm(7, 90) ? cargo.arms(60) : NONE, 980);
        CHECK.due("beyond 60", cargo.arms(61), NONE);
        CHECK.due("below 0", cargo.arms(-1), NONE);
    }

    private static void sailTwice() {
        CHECK.by("She goes to SEA with a STATE: true; false if she is there.");
        for (int state : new int[] {0, -1, 1, Integer.MIN_VALUE, Integer.MAX_VALUE}) {
            SoupCargo cargo = new SoupCargo();
            CHECK.yes("sail(" + state + ")", cargo.sail(state));
            CHECK.due("at SEA", cargo.ship(1), 1);
            CHECK.no("sail again", cargo.sail(state));
            cargo.hours(1);
            CHECK.no("sail after an hour", cargo.sail(state));
        }
        nothingDone("sail at SEA", Scene::atSea, cargo -> cargo.sail(123456789));
        SoupCargo gone = new SoupCargo();
        Scene.gone(gone);
        CHECK.due("she is GONE", gone.ship(5), 3);
        CHECK.no("GONE she is still there", gone.sail(0));
        nothingDone("sail when GONE", Scene::gone, cargo -> cargo.sail(0));
        // a first STATE with DRAW 0, and a refused one with DRAW 3
        SoupCargo kept = new SoupCargo();
        kept.sky(0, 0, 9);
        kept.arm(7, 0);
        kept.sail(Scene.stateBefore(0));
        kept.sail(Scene.stateBefore(3));
        kept.hours(1);
        CHECK.due("the refused STATE is not taken", kept.ship(5), NONE);
    }

    private static void nothingInPort() {
        CHECK.by("(In port nothing of this.)");
        SoupCargo cargo = Scene.loaded("down water; soup 1;", 0, 0, 0, 0, 2, 0);
        Scene.put(cargo, 1, 5, 99, 9999);
        cargo.sky(0, 9, 9);
        cargo.arm(7, 0);
        cargo.hours(24);
        CHECK.due("not SHAKEN", cargo.cell(1, 5, 0, 0, 3), 0);
        CHECK.due("no water goes down", cargo.cell(1, 5, 0, 0, 1), 9999);
        CHECK.due("THE WELL", cargo.ship(6), 0);
        CHECK.due("no SOUP", cargo.ship(9), 0);
        CHECK.due("no LEAN", cargo.ship(4), 0);
        CHECK.due("not GONE", cargo.ship(5), NONE);
        CHECK.due("nothing flows", Scene.heights(cargo), "000020");
        CHECK.due("NOW goes on", cargo.ship(0), 24);
    }

    private static void shaken() {
        CHECK.by("each CELL with ORE is SHAKEN by SWELL more (9999 at most)");
        // 719 hours of SWELL 9 are the most there can be: 6471, so that the most of 9999 is never seen
        SoupCargo cargo = Scene.loaded("", 0, 0, 1, 1, 0, 0);
        for (int day = 0; day < 30; day++) {
            cargo.sky(day, 0, day == 28 ? 0 : 9);
        }
        cargo.sail(0);
        cargo.arm(7, 90);
        cargo.hours(1);
        CHECK.due("an hour of 9", cargo.cell(0, 2, 0, 0, 3), 9);
        CHECK.due("no ORE, not SHAKEN", cargo.cell(0, 2, 0, 1, 3), 0);
        Scene.passTo(cargo, 24 * 28);
        CHECK.due("28 days of 9", cargo.cell(0, 3, 0, 0, 3), 9 * 24 * 28);
        Scene.passTo(cargo, 24 * 29);
        CHECK.due("a day of 0", cargo.cell(0, 3, 0, 0, 3), 9 * 24 * 28);
        Scene.passTo(cargo, 719);
        CHECK.due("to the last hour", cargo.cell(0, 3, 0, 0, 3), 9 * 24 * 28 + 9 * 23);
        CHECK.due("she is there", cargo.ship(5), NONE);
        for (int corner = 0; corner < 2; corner++) {
            SoupCargo one = Scene.withLaws("soup shaken;");
            for (int z = 0; z < 6; z++) {
                Scene.put(one, 3 * corner, 5 * corner, 1, 0);
            }
            one.sky(0, 0, 1);
            one.sail(0);
            one.hours(1);
            CHECK.due("the lowest CELL of the corner", one.cell(3 * corner, 5 * corner, 0, 0, 3), 1);
            CHECK.due("the highest CELL of the corner", one.cell(3 * corner, 5 * corner, 0, 5, 3), 1);
            CHECK.due("all of them are SOUP", one.ship(9), 6);
        }
    }

    private static void downInTheHolds() {
        CHECK.by("water goes down in the HOLDS likewise (of LAYER 0 into THE WELL)");
        int[][] cases = {{-1, 0}, {0, 0}, {1, 1}, {50, 50}, {51, 50}};
        for (int[] one : cases) {
            SoupCargo cargo = Scene.withLaws("down " + (one[0] < 0 ? "0-1" : one[0]) + "; dry 9;");
            Scene.put(cargo, 3, 2, 1, 50);
            Scene.put(cargo, 3, 3, 1, 50);
            cargo.sky(0, 9, 0);
            cargo.sail(0);
            cargo.hours(1);
            CHECK.due("WATER with down " + one[0], cargo.cell(3, 2, 0, 0, 1), 50 - one[1]);
            CHECK.due("THE WELL with down " + one[0], cargo.ship(6), 2 * one[1]);
            CHECK.due("nothing goes OUT", cargo.ship(7), 0);
        }
        SoupCargo full = Scene.withLaws("down water;");
        for (int z = 0; z < 6; z++) {
            Scene.put(full, 0, 2, 1, 100 * (z + 1));
            Scene.put(full, 1, 3, 1, 100 * (z + 1));
        }
        full.sail(0);
        full.hours(1);
        for (int z = 0; z < 6; z++) {
            CHECK.due("all at once, LAYER " + z, full.cell(0, 2, 0, z, 1), z == 5 ? 0 : 100 * (z + 2));
        }
        CHECK.due("THE WELL", full.ship(6), 200);
        full.hours(5);
        CHECK.due("THE WELL after six HOURS", full.ship(6), 2 * 2100);
        full.hours(1);
        CHECK.due("no more than there was", full.ship(6), 2 * 2100);
    }

    private static void soupAboveNothing() {
        CHECK.by("then a CELL with ORE is SOUP, if its LAW soup is above 0.");
        String[] laws = {"", "soup 0-1;", "soup 0;", "soup 1;", "soup 9999;", "soup 9999*9999*22;"};
        for (int i = 0; i < laws.length; i++) {
            SoupCargo cargo = Scene.loaded(laws[i], 0, 0, 1, 1, 0, 0);
            cargo.sail(0);
            cargo.hours(1);
            int due = i == 3 || i == 4 ? 1 : 0;
            CHECK.due("SOUP by " + laws[i], cargo.cell(0, 2, 0, 0, 4), due);
            CHECK.due("CELLS by " + laws[i], cargo.ship(9), 2 * due);
            CHECK.due("no ORE, no SOUP by " + laws[i], cargo.cell(0, 2, 0, 1, 4), 0);
        }
        SoupCargo edge = Scene.loaded("soup shaken-9;", 0, 0, 1, 1, 0, 0);
        edge.sky(0, 0, 3);
        edge.sail(0);
        edge.hours(3);
        CHECK.due("shaken 9", edge.ship(9), 0);
        edge.hours(1);
        CHECK.due("shaken 12", edge.ship(9), 2);
        SoupCargo dries = Scene.loaded("soup 1-clock;", 0, 0, 1, 1, 0, 0);
        dries.sail(0);
        dries.hours(1);
        CHECK.due("SOUP at CLOCK 0", dries.ship(9), 2);
        dries.hours(1);
        CHECK.due("none at CLOCK 1", dries.ship(9), 0);
    }

    /** 50 tons at ARM 1 or -1 want an ARM of 4 just so; with one more WATER a little more. */
    private static SoupCargo wantsFour(int side, int water) {
        SoupCargo cargo = new SoupCargo();
        Scene.put(cargo, 0, side > 0 ? 3 : 2, 50, water);
        return cargo;
    }

    private static void leastLean() {
        CHECK.by("LEAN is the least degree 0 .. 60 at which her ARM times WEIGHT is at least 20 times MOMENT as far as it is"
            + " from 0");
        for (int side = -1; side <= 1; side += 2) {
            for (int degree = 0; degree <= 60; degree += 10) {
                for (int water = 0; water <= 1; water++) {
                    SoupCargo cargo = wantsFour(side, water);
                    for (int k = 0; k < 7; k++) {
                        cargo.arm(k, 10 * k < degree ? 0 : 10 * k == degree ? 4 : 99);
                    }
                    cargo.sail(0);
                    cargo.hours(1);
                    // one more degree is enough for one more WATER, where there is one
                    int due = water == 0 ? degree : degree + 1;
                    CHECK.due("LEAN", cargo.ship(4), side * due);
                }
            }
        }
        SoupCargo humps = wantsFour(1, 0);
        humps.arm(1, 3);
        humps.arm(2, 4);
        humps.arm(3, 0);
        humps.arm(4, 99);
        humps.sail(0);
        humps.hours(1);
        CHECK.due("the least of several", humps.ship(4), 20);
        SoupCargo empty = new SoupCargo();
        for (int k = 0; k < 7; k++) {
            empty.arm(k, 0);
        }
        empty.sail(0);
        empty.hours(1);
        CHECK.due("no MOMENT, no LEAN", empty.ship(4), 0);
        CHECK.due("nor is she GONE", empty.ship(5), NONE);
    }

    private static SoupCargo heldAtSixtyAlone(int side, int water) {
        SoupCargo cargo = wantsFour(side, water);
        for (int k = 0; k < 6; k++) {
            cargo.arm(k, 0);
        }
        cargo.arm(6, 4);
        return cargo;
    }

    private static void leanOfSixty() {
        CHECK.by("LEAN is the least degree 0 .. 60");
        for (int side = -1; side <= 1; side += 2) {
            SoupCargo held = heldAtSixtyAlone(side, 0);
            held.sail(0);
            held.hours(1);
            CHECK.due("LEAN 60", held.ship(4), 60 * side);
            CHECK.due("not GONE", held.ship(5), NONE);
        }
        CHECK.by("if there is none she is GONE (LEAN is 61 then, -61 if MOMENT is below 0).");
        for (int side = -1; side <= 1; side += 2) {
            SoupCargo gone = heldAtSixtyAlone(side, 1);
            gone.arm(7, 90);
            gone.hours(5);
            gone.sail(0);
            gone.hours(1);
            CHECK.due("LEAN when GONE", gone.ship(4), 61 * side);
            CHECK.due("the HOUR", gone.ship(5), 5);
        }
    }

    private static void goneByLean() {
        CHECK.by("5 the HOUR in which she was GONE (NONE)");
        for (int hour : new int[] {0, 1, 47, 718}) {
            SoupCargo cargo = heldAtSixtyAlone(1, 1);
            Scene.passTo(cargo, hour);
            cargo.sail(0);
            CHECK.due("ahead of it", cargo.ship(5), NONE);
            cargo.hours(1);
            CHECK.due("the HOUR in which she was GONE", cargo.ship(5), hour);
            CHECK.due("NOW", cargo.ship(0), hour + 1);
        }
        SoupCargo among = Scene.loaded("", 0, 0, 0, 0, 0, 1);
        among.arm(7, 0);
        among.arm(0, 99);
        among.sky(1, 0, 9);
        among.sail(Scene.stateBefore(3));
        among.hours(48);
        CHECK.yes("in an HOUR among several", among.ship(5) >= 24 && among.ship(5) < 48);
        CHECK.due("they all go by", among.ship(0), 48);
    }

    private static void sides() {
        CHECK.by("to starboard, if MOMENT is above 0, else to port;");
        for (int tons = -1; tons <= 1; tons++) {
            SoupCargo cargo = new SoupCargo();
            Scene.put(cargo, 0, 2, 50, tons < 0 ? 1 : 0);
            Scene.put(cargo, 3, 3, 50, tons > 0 ? 1 : 0);
            cargo.sail(0);
            cargo.hours(1);
            CHECK.due("MOMENT", cargo.ship(2), tons);
            CHECK.due("LEAN by a MOMENT of " + tons, cargo.ship(4), tons);
        }
    }

    /** With LEAN 20 at once, by 50 tons. */
    private static SoupCargo leansTwenty(int side) {
        SoupCargo cargo = wantsFour(side, 0);
        cargo.arm(1, 0);
        cargo.arm(2, 4);
        return cargo;
    }

    private static void limitEdges() {
        CHECK.by("if LEAN and that together are above LIMIT (0 .. 90, 60 at first), she is GONE too.");
        for (int side = -1; side <= 1; side += 2) {
            for (int draw = 0; draw < 4; draw++) {
                for (int less = 0; less <= 1; less++) {
                    SoupCargo cargo = leansTwenty(side);
                    cargo.sky(0, 0, 9);
                    CHECK.yes("LIMIT", cargo.arm(7, 20 + 9 * draw - less));
                    cargo.sail(Scene.stateBefore(draw));
                    cargo.hours(1);
                    CHECK.due("LEAN", cargo.ship(4), 20 * side);
                    CHECK.due("GONE by LIMIT less " + less, cargo.ship(5), less == 0 ? NONE : 0);
                }
            }
            for (int limit = 0; limit <= 1; limit++) {
                SoupCargo least = wantsFour(side, 0);
                least.arm(1, 40);
                least.arm(7, limit);
                least.sail(0);
                least.hours(1);
                CHECK.due("LEAN 1", least.ship(4), side);
                CHECK.due("GONE by LIMIT " + limit, least.ship(5), limit == 0 ? 0 : NONE);
            }
            SoupCargo most = heldAtSixtyAlone(side, 0);
            most.sky(0, 0, 9);
            most.arm(7, 87);
            most.sail(Scene.stateBefore(3));
            most.hours(1);
            CHECK.due("60 and 27 are not above 87", most.ship(5), NONE);
            SoupCargo over = heldAtSixtyAlone(side, 0);
            over.sky(0, 0, 9);
            over.arm(7, 86);
            over.sail(Scene.stateBefore(3));
            over.hours(1);
            CHECK.due("60 and 27 are above 86", over.ship(5), 0);
            CHECK.due("LEAN is what it is", over.ship(4), 60 * side);
        }
        limitAtFirst();
    }

    private static void limitAtFirst() {
        SoupCargo at = heldAtSixtyAlone(1, 0);
        at.sky(0, 0, 9);
        at.sail(Scene.stateBefore(0));
        at.hours(1);
        CHECK.due("60 is not above LIMIT at first", at.ship(5), NONE);
        SoupCargo above = heldAtSixtyAlone(1, 0);
        above.sky(0, 0, 1);
        above.sail(Scene.stateBefore(1));
        above.hours(1);
        CHECK.due("61 is", above.ship(5), 0);
        SoupCargo refused = heldAtSixtyAlone(1, 0);
        CHECK.no("LIMIT 91", refused.arm(7, 91));
        CHECK.no("LIMIT -1", refused.arm(7, -1));
        refused.sky(0, 0, 1);
        refused.sail(Scene.stateBefore(1));
        refused.hours(1);
        CHECK.due("a refused LIMIT is not taken", refused.ship(5), 0);
    }

    private static void draws() {
        CHECK.by("she ROLLS by SWELL times the DRAW (0 .. 3, the highest two bits of STATE");
        for (int draw = 0; draw < 4; draw++) {
            for (int swell = 0; swell <= 9; swell += 3) {
                for (int less = 0; less <= 1; less++) {
                    SoupCargo cargo = new SoupCargo();
                    cargo.sky(0, 0, swell);
                    cargo.arm(7, Math.max(0, swell * draw - less));
                    cargo.sail(Scene.stateBefore(draw));
                    cargo.hours(1);
                    boolean gone = less == 1 && swell * draw > 0;
                    CHECK.due("GONE by " + swell + " times " + draw, cargo.ship(5), gone ? 0 : NONE);
                }
            }
        }
    }

    private static void stateWraps() {
        CHECK.by("which becomes 1664525 STATE + 1013904223 first, ints that wrap");
        for (int start : new int[] {0, 1, -1, 1290, -1290, Integer.MAX_VALUE, Integer.MIN_VALUE, 0x40000000, 987654321}) {
            for (int limit = 0; limit < 27; limit += 9) {
                SoupCargo cargo = new SoupCargo();
                cargo.sky(0, 0, 9);
                cargo.arm(7, limit);
                cargo.sail(start);
                long state = start;
                int due = NONE;
                for (int hour = 0; hour < 20; hour++) {
                    // the same modulo 2 to the 32nd
                    state = (1664525 * state + 1013904223) & 0xffffffffL;
                    due = due == NONE && 9 * (state >> 30) > limit ? hour : due;
                    cargo.hours(1);
                    CHECK.due("GONE of " + start + " by " + limit, cargo.ship(5), due);
                }
            }
        }
    }

    private static void afterAnHour(int lean, String due, int... heights) {
        SoupCargo cargo = Scene.loaded("soup 1;", heights);
        cargo.arm(7, 90);
        // the tenths that her ARM must have: at 9 degrees first, or at 10
        int want = (20 * 10 * Math.abs(cargo.ship(2)) + cargo.ship(3) - 1) / cargo.ship(3);
        for (int k = 0; k < 7; k++) {
            cargo.arm(k, 0);
        }
        cargo.arm(1, lean == 9 ? (want + 8) / 9 : (want + 9) / 10);
        cargo.sail(0);
        cargo.hours(1);
        CHECK.due("LEAN", Math.abs(cargo.ship(4)), lean);
        CHECK.due("LEAN " + lean, Scene.heights(cargo), due);
    }

    private static void flowEdges() {
        CHECK.by("has a HEIGHT that is not more than its own less 1, and 1 more if LEAN is 10 or more");
        afterAnHour(9, "000011", 0, 0, 0, 0, 1, 1);
        afterAnHour(10, "000002", 0, 0, 0, 0, 1, 1);
        afterAnHour(9, "110000", 1, 1, 0, 0, 0, 0);
        afterAnHour(10, "200000", 1, 1, 0, 0, 0, 0);
        afterAnHour(9, "000012", 0, 0, 0, 0, 2, 1);
        afterAnHour(10, "000012", 0, 0, 0, 0, 1, 2);
        afterAnHour(9, "000012", 0, 0, 0, 0, 1, 2);
        afterAnHour(10, "000012", 0, 0, 0, 0, 2, 1);
        afterAnHour(9, "000021", 0, 0, 0, 0, 3, 0);
        afterAnHour(10, "000013", 0, 0, 0, 0, 2, 2);
        afterAnHour(10, "000024", 0, 0, 0, 0, 2, 4);
        afterAnHour(9, "210000", 1, 2, 0, 0, 0, 0);
        afterAnHour(10, "310000", 2, 2, 0, 0, 0, 0);
        CHECK.by("if its TOP is SOUP");
        SoupCargo below = Scene.loaded("soup 1 when layer=0;", 0, 0, 0, 0, 2, 0);
        below.sail(0);
        below.hours(2);
        CHECK.due("SOUP below a dry TOP", Scene.heights(below), "000020");
        SoupCargo above = Scene.loaded("soup 1 when layer=1;", 0, 0, 0, 0, 2, 0);
        above.sail(0);
        above.hours(1);
        CHECK.due("a TOP of SOUP", Scene.heights(above), "000011");
        CHECK.due("it is SOUP there too", above.cell(0, 5, 0, 0, 4), 1);
    }

    private static void flowSides() {
        CHECK.by("Then SOUP flows: in each HOLD, COLUMN by COLUMN from the low side on (starboard, if LEAN is to starboard, else"
            + " port; not if LEAN is 0)");
        SoupCargo starboard = Scene.loaded("soup 1;", 0, 0, 0, 1, 1, 0);
        starboard.sail(0);
        starboard.hours(1);
        CHECK.due("to starboard, the second after the first", Scene.heights(starboard), "000011");
        SoupCargo port = Scene.loaded("soup 1;", 0, 1, 1, 0, 0, 0);
        port.sail(0);
        port.hours(1);
        CHECK.due("to port, the second after the first", Scene.heights(port), "110000");
        for (int side = -1; side <= 1; side += 2) {
            SoupCargo little = Scene.loaded("soup 1;", 0, side < 0 ? 1 : 0, 0, 0, side < 0 ? 0 : 1, 0);
            little.arm(1, 99);
            little.sail(0);
            little.hours(1);
            CHECK.due("LEAN 1", little.ship(4), side);
            CHECK.due("a LEAN of 1 is enough", Scene.heights(little), side < 0 ? "100000" : "000001");
        }
        SoupCargo upright = Scene.loaded("soup 1;", 2, 0, 1, 1, 0, 2);
        upright.sail(0);
        upright.hours(3);
        CHECK.due("upright", Scene.heights(upright), "201102");
        SoupCargo stiff = Scene.loaded("soup 1;", 0, 0, 0, 0, 2, 0);
        stiff.arm(0, 99);
        stiff.sail(0);
        stiff.hours(3);
        CHECK.due("a MOMENT, but no LEAN", Scene.heights(stiff), "000020");
        SoupCargo lowest = Scene.loaded("soup 1;", 0, 0, 0, 0, 0, 3);
        lowest.sail(0);
        lowest.hours(3);
        CHECK.due("nothing goes beyond the low side", Scene.heights(lowest), "000003");
        CHECK.due("nor into the next HOLD", lowest.cell(1, 0, 0, 0, 0), 0);
        for (int hold = 0; hold < 4; hold++) {
            flowInAHold(hold, 1, 99);
            flowInAHold(hold, -1, 99);
            flowInAHold(hold, 1, 20);
            flowInAHold(hold, -1, 20);
        }
    }

    /** A cell on the low side and one on the high side, by 1 degree or more. */
    private static void flowInAHold(int hold, int side, int arm) {
        int low = side > 0 ? 5 : 0;
        SoupCargo cargo = Scene.withLaws("soup 1;");
        Scene.put(cargo, hold, low, 20, 0);
        Scene.put(cargo, hold, 5 - low, 11, 0);
        cargo.arm(1, arm);
        cargo.sail(0);
        cargo.hours(1);
        CHECK.due("LEAN", cargo.ship(4), arm == 99 ? side : 2 * side);
        CHECK.due("it stays on the low side of HOLD " + hold, cargo.cell(hold, low, 0, 0, 0), 20);
        CHECK.due("it has left the high side of HOLD " + hold, cargo.cell(hold, 5 - low, 0, 0, 0), 0);
        CHECK.due("it is a COLUMN farther in HOLD " + hold, cargo.cell(hold, 5 - low + side, 0, 0, 0), 11);
    }

    private static void layerLeft() {
        CHECK.by("goes on top there, if that has a LAYER left.");
        afterAnHour(9, "000056", 0, 0, 0, 0, 6, 5);
        afterAnHour(10, "000046", 0, 0, 0, 0, 5, 5);
        afterAnHour(10, "000066", 0, 0, 0, 0, 6, 6);
        afterAnHour(10, "660000", 6, 6, 0, 0, 0, 0);
        afterAnHour(10, "000666", 0, 0, 0, 6, 6, 6);
        // the way is free for the second as soon as the first has flowed
        afterAnHour(10, "000566", 0, 0, 0, 6, 6, 5);
        CHECK.by("TOP (ORE, WATER, SHAKEN, SOUP) goes on top there");
        SoupCargo cargo = Scene.loaded("soup 1 when ore>10;", 0, 0, 0, 0, 1, 1);
        Scene.put(cargo, 0, 4, 99, 9999);
        cargo.sky(0, 0, 9);
        cargo.arm(0, 0);
        for (int k = 1; k < 7; k++) {
            cargo.arm(k, 99);
        }
        cargo.sail(Scene.stateBefore(0));
        cargo.hours(1);
        int[] due = {99, 9999, 101, 9, 1};
        for (int what = 0; what < 5; what++) {
            CHECK.due("what " + what, cargo.cell(0, 5, 0, 1, what), due[what]);
            CHECK.due("nothing is left of what " + what, cargo.cell(0, 4, 0, 1, what), 0);
        }
    }

    private static void goneForEver() {
        CHECK.by("GONE she stays as she is for ever (nothing of this any more).");
        for (int byRoll = 0; byRoll <= 1; byRoll++) {
            SoupCargo cargo = Scene.loaded("soup 1; down 1;", 0, 0, 0, 0, 2, 0);
            Scene.put(cargo, 0, 4, 50, 500);
            cargo.sky(0, 0, 3);
            cargo.heap(0, 0, 0, 1, 100);
            for (int k = 1; k < 7; k++) {
                cargo.arm(k, byRoll == 1 ? 99 : 0);
            }
            cargo.arm(7, byRoll == 1 ? 0 : 90);
            cargo.sail(0);
            cargo.hours(1);
            CHECK.due("GONE", cargo.ship(5), 0);
            int lean = cargo.ship(4);
            CHECK.due("nothing flows in that HOUR", Scene.heights(cargo), "000030");
            cargo.arm(7, 90);
            cargo.arm(0, 99);
            cargo.sky(0, 9, 9);
            cargo.hours(48);
            CHECK.due("LEAN stays", cargo.ship(4), lean);
            CHECK.due("the HOUR stays", cargo.ship(5), 0);
            CHECK.due("nothing flows later", Scene.heights(cargo), "000030");
            CHECK.due("SHAKEN stays", cargo.cell(0, 4, 0, 2, 3), 3);
            CHECK.due("WATER stays", cargo.cell(0, 4, 0, 2, 1), 499);
            CHECK.due("THE WELL stays", cargo.ship(6), 0);
            CHECK.due("SOUP stays", cargo.ship(9), 3);
            CHECK.due("at SEA", cargo.ship(1), 1);
            CHECK.due("NOW goes on", cargo.ship(0), 49);
            CHECK.due("THE HEAP goes on", cargo.ship(7), 49);
        }
    }

    private static void shipAnswers() {
        CHECK.by("4 LEAN in the last HOUR at SEA (to starboard; to port below 0; 0 ahead of one)");
        SoupCargo cargo = leansTwenty(1);
        CHECK.due("in port", cargo.ship(4), 0);
        cargo.hours(1);
        cargo.sail(0);
        CHECK.due("at SEA, ahead of an HOUR", cargo.ship(4), 0);
        cargo.hours(1);
        CHECK.due("after it", cargo.ship(4), 20);
        cargo.arm(1, 99);
        CHECK.due("as it was in that HOUR", cargo.ship(4), 20);
        cargo.hours(1);
        CHECK.due("in the next HOUR", cargo.ship(4), 1);
        CHECK.by("WEIGHT the sum of 10 ORE + WATER, and 2000 more.");
        SoupCargo full = new SoupCargo();
        for (int n = 0; n < 144; n++) {
            Scene.put(full, n / 36, n / 6 % 6, 99, 9999);
        }
        CHECK.due("WEIGHT of a full ship", full.ship(3), 2000 + 144 * (990 + 9999));
        CHECK.due("MOMENT of a full ship", full.ship(2), 0);
        CHECK.due("CELLS of a full ship", full.ship(8), 144);
        SoupCargo half = new SoupCargo();
        for (int n = 0; n < 72; n++) {
            Scene.put(half, n / 18, 3 + n / 6 % 3, 99, 9999);
        }
        CHECK.due("the greatest MOMENT", half.ship(2), 24 * 9 * (990 + 9999));
        for (int k = 0; k < 7; k++) {
            half.arm(k, 99);
        }
        half.sail(0);
        half.hours(1);
        // 20 times 2373624 by 793208 is an ARM of 59.8
        CHECK.due("the greatest ARM holds it", half.ship(4), 0);
    }

    private static void splitEdges() {
        CHECK.by("SPLIT for T CELLS (0 .. 144): of all ways to part them to the HOLDS (36 at most each) that with the least"
            + " WORST, of several the first by numbers");
        int[][] due = {{0, 0, 0, 0, 0, 0}, {1, 5, 0, 0, 0, 1}, {6, 30, 0, 0, 0, 6}, {7, 33, 0, 0, 0, 7},
            {17, 53, 0, 0, 0, 17}, {18, 54, 0, 0, 0, 18}, {19, 53, 0, 0, 0, 19}, {35, 5, 0, 0, 0, 35},
            {36, 0, 0, 0, 0, 36}, {37, 5, 0, 0, 1, 36}, {71, 5, 0, 0, 35, 36}, {72, 0, 0, 0, 36, 36},
            {73, 5, 0, 1, 36, 36}, {108, 0, 0, 36, 36, 36}, {109, 5, 1, 36, 36, 36}, {126, 54, 18, 36, 36, 36},
            {143, 5, 35, 36, 36, 36}, {144, 0, 36, 36, 36, 36}};
        for (int[] one : due) {
            SoupCargo cargo = new SoupCargo();
            for (int what = 0; what < 5; what++) {
                CHECK.due("split " + one[0] + " what " + what, cargo.split(one[0], what), one[1 + what]);
            }
            CHECK.due("another what", cargo.split(one[0], 5), NONE);
            CHECK.due("what -1", cargo.split(one[0], -1), NONE);
        }
        SoupCargo cargo = new SoupCargo();
        for (int cells : new int[] {-1, 145, 180, Integer.MIN_VALUE, Integer.MAX_VALUE}) {
            for (int what = 0; what < 5; what++) {
                CHECK.due("split " + cells, cargo.split(cells, what), NONE);
            }
        }
    }

    private static void worstOfOneHold() {
        CHECK.by("WORST of n CELLS in a HOLD: the sum of ARMS of n CELLS that fill COLUMNS from the starboard side on (6 each)");
        SoupCargo cargo = new SoupCargo();
        int worst = 0;
        for (int n = 1; n <= 36; n++) {
            worst += 5 - (n - 1) / 6 * 2;
            // all in one HOLD is never worse than to part them
            CHECK.due("WORST of " + n, cargo.split(n, 0), worst);
            CHECK.due("all in the last HOLD", cargo.split(n, 4), n);
        }
        CHECK.due("WORST of a full HOLD", worst, 0);
    }

    private static void portEdges() {
        CHECK.by("PORTS 0 .. 5 as they come are HOURS 1 .. 400 away.");
        SoupCargo cargo = new SoupCargo();
        int[] hours = {1, 400, 400, 1, 2, 399};
        for (int k = 0; k < 6; k++) {
            for (int wrong : new int[] {0, -1, 401, Integer.MIN_VALUE, Integer.MAX_VALUE}) {
                CHECK.due("port(" + wrong + ")", cargo.port(wrong), NONE);
            }
            CHECK.due("port(" + hours[k] + ")", cargo.port(hours[k]), k);
        }
        CHECK.by("A PORT: its number; NONE if one can't be, or there are six.");
        CHECK.due("a seventh", cargo.port(1), NONE);
        CHECK.due("an eighth", cargo.port(400), NONE);
        nothingDone("a seventh port", Scene::full, twin -> twin.port(1));
        cargo.sail(0);
        CHECK.due("the first is still the nearest", cargo.reach(NONE), 0);
        CHECK.due("no seventh is there", cargo.reach(6), NONE);
    }

    private static void reachRefused() {
        CHECK.by("NONE if one can't be, she is in port, GONE, or it is beyond HOUR 719.");
        SoupCargo port = new SoupCargo();
        Scene.inPort(port);
        for (int k = -2; k < 7; k++) {
            CHECK.due("in port", port.reach(k), NONE);
        }
        nothingDone("reach in port", Scene::inPort, twin -> twin.reach(0));
        SoupCargo gone = new SoupCargo();
        Scene.gone(gone);
        for (int k = -2; k < 7; k++) {
            CHECK.due("GONE", gone.reach(k), NONE);
        }
        nothingDone("reach when GONE", Scene::gone, twin -> twin.reach(0));
        SoupCargo sea = new SoupCargo();
        Scene.atSea(sea);
        CHECK.due("her second port", sea.reach(1), 1);
        CHECK.due("there is no third", sea.reach(2), NONE);
        CHECK.due("k -2", sea.reach(-2), NONE);
        nothingDone("reach, though it is answered", Scene::atSea, twin -> twin.reach(0));
        nothingDone("THE BEST", Scene::atSea, twin -> twin.reach(NONE));
        for (int hour = 318; hour <= 320; hour++) {
            SoupCargo late = new SoupCargo();
            late.port(400);
            Scene.passTo(late, hour);
            late.sail(0);
            CHECK.due("from " + hour + " on 400", late.reach(0), hour <= 319 ? 1 : NONE);
            CHECK.due("THE BEST from " + hour + " on", late.reach(NONE), hour <= 319 ? 0 : NONE);
        }
        for (int hour = 718; hour <= 719; hour++) {
            SoupCargo last = new SoupCargo();
            last.port(1);
            Scene.passTo(last, hour);
            last.sail(0);
            CHECK.due("from " + hour + " on 1", last.reach(0), hour == 718 ? 1 : NONE);
        }
    }

    private static void reachEdges() {
        CHECK.by("she REACHES it, if she is not GONE by then");
        // with nothing loaded she is GONE in the first HOUR of day 1 with DRAW 3
        int state = Scene.stateBefore(2);
        int gone = 24;
        int next = state;
        for (int hour = 0; hour < 24; hour++) {
            next = 1664525 * next + 1013904223;
        }
        for (next = 1664525 * next + 1013904223; next >>> 30 != 3; next = 1664525 * next + 1013904223) {
            gone++;
        }
        SoupCargo cargo = new SoupCargo();
        cargo.sky(1, 0, 9);
        cargo.sky(2, 0, 9);
        cargo.arm(7, 26);
        cargo.port(gone - 1);
        cargo.port(gone);
        cargo.port(gone + 1);
        cargo.port(400);
        cargo.sail(state);
        CHECK.due("an HOUR ahead of it", cargo.reach(0), 1);
        CHECK.due("just ahead of it", cargo.reach(1), 1);
        CHECK.due("in that HOUR", cargo.reach(2), 0);
        CHECK.due("long after it", cargo.reach(3), 0);
        cargo.hours(1);
        CHECK.due("an HOUR later, from there on", cargo.reach(0), 1);
        CHECK.due("as far", cargo.reach(1), 0);
        Scene.passTo(cargo, gone);
        CHECK.due("she is there till then", cargo.ship(5), NONE);
        cargo.hours(1);
        CHECK.due("GONE as it was told", cargo.ship(5), gone);
    }

    /** A ship that is GONE in an HOUR that hangs on one thing alone; a port that far is reached, the next is not. */
    private static void goneBy(String what, Consumer<SoupCargo> past, int gone) {
        SoupCargo cargo = new SoupCargo();
        past.accept(cargo);
        int away = gone - cargo.ship(0);
        cargo.port(away);
        cargo.port(away + 1);
        CHECK.due("reached ahead of it: " + what, cargo.reach(0), 1);
        CHECK.due("not reached: " + what, cargo.reach(1), 0);
        CHECK.due("once more, the same: " + what, cargo.reach(0), 1);
        Scene.passTo(cargo, gone + 1);
        CHECK.due("GONE: " + what, cargo.ship(5), gone);
    }

    private static void reachLeadsAll() {
        CHECK.by("all led as in 2. (STATE, SWELL as they are).");
        goneBy("by the CLOCK", cargo -> {
            oneCell(cargo, "soup 1 when clock=7;", 0);
            cargo.hours(8);
            cargo.sail(0);
            cargo.hours(2);
        }, 32);
        goneBy("by the RAIN of a DAY", cargo -> {
            oneCell(cargo, "soup rain;", 0);
            cargo.sky(2, 1, 0);
            cargo.sail(0);
            cargo.hours(3);
        }, 49);
        goneBy("by how she has been SHAKEN", cargo -> {
            oneCell(cargo, "soup shaken-19;", 0);
            cargo.sky(0, 0, 1);
            cargo.sail(0);
            cargo.hours(15);
        }, 20);
        goneBy("by the WATER", cargo -> {
            oneCell(cargo, "down 1; soup 1 when water=30;", 50);
            cargo.sail(0);
            cargo.hours(6);
        }, 20);
        goneBy("by her ARMS", cargo -> {
            oneCell(cargo, "soup 1 when clock=7;", 0);
            cargo.arm(1, 10);
            cargo.arm(7, 12);
            cargo.sail(0);
            cargo.hours(2);
        }, 8);
    }

    /** 50 tons, with which she leans 6 or 7 degrees; once they have flowed to starboard 10 or more, beyond LIMIT. */
    private static void oneCell(SoupCargo cargo, String laws, int water) {
        Check.laws(cargo, laws);
        Scene.put(cargo, 0, 4, 50, water);
        cargo.arm(7, 9);
    }

    private static void bestEdges() {
        CHECK.by("THE BEST is that which is reached with the fewest HOURS (of several the least number).");
        SoupCargo none = new SoupCargo();
        none.sail(0);
        CHECK.due("no port", none.reach(NONE), NONE);
        CHECK.due("a first port", none.port(400), 0);
        CHECK.due("the only one", none.reach(NONE), 0);
        none.port(9);
        none.port(8);
        none.port(8);
        none.port(9);
        CHECK.due("of two the least number", none.reach(NONE), 2);
        none.port(7);
        CHECK.due("the fewest", none.reach(NONE), 5);
        SoupCargo doomed = Scene.loaded("", 0, 0, 0, 0, 0, 1);
        doomed.arm(7, 0);
        doomed.port(1);
        doomed.sail(0);
        CHECK.due("none is reached", doomed.reach(NONE), NONE);
        CHECK.due("not even that which is an HOUR away", doomed.reach(0), 0);
    }
}
