/** The edges of the heap, sentence by sentence: terms 1 and 2, promises 1 to 5, 11 and 17. */
public final class HeapEdgesTest {
    private static final int NONE = SoupCargo.NONE;
    private static final int LAST = 719;
    private static final Check CHECK = new Check("HeapEdgesTest");

    public static void main(String[] args) {
        atFirst();
        cellsAtFirst();
        heightAndTop();
        dayAndClock();
        skyAtFirst();
        quotients();
        sorts();
        skyEdges();
        heapEdges();
        heapRefused();
        cellEdges();
        hoursEdges();
        brim();
        brimOnTheWayDown();
        dryEdges();
        downEdges();
        rainEdges();
        lawLines();
        light();
        toldEdges();
        CHECK.close();
    }

    private static void atFirst() {
        CHECK.by("`SoupCargo()`: HOUR 0, in port, nothing there.");
        SoupCargo cargo = new SoupCargo();
        CHECK.due("HOUR", cargo.ship(0), 0);
        CHECK.due("at SEA", cargo.ship(1), 0);
        CHECK.due("MOMENT", cargo.ship(2), 0);
        CHECK.due("WEIGHT of an empty ship", cargo.ship(3), 2000);
        CHECK.due("LEAN", cargo.ship(4), 0);
        CHECK.due("GONE", cargo.ship(5), NONE);
        for (int what = 6; what <= 10; what++) {
            CHECK.due("ship " + what, cargo.ship(what), 0);
        }
        CHECK.due("no FAULT", cargo.fault(0), 0);
        CHECK.due("no place of a FAULT", cargo.fault(1), NONE);
        CHECK.no("the TAPE is empty", cargo.end(1));
        CHECK.due("no can yet", cargo.can(0, 0, 0), NONE);
        CHECK.due("no port yet", cargo.port(9), 0);
        CHECK.due("no ship on the LIST yet", cargo.list(0, 0, 0, false), 1);
    }

    private static void cellsAtFirst() {
        CHECK.by("All CELLS are empty at first.");
        SoupCargo heap = new SoupCargo();
        SoupCargo ship = new SoupCargo();
        for (int cell = 0; cell < 256; cell++) {
            CHECK.due("ORE of the heap", heap.cell(NONE, cell / 32, cell / 4 % 8, cell % 4, 0), 0);
            CHECK.due("WATER of the heap", heap.cell(NONE, cell / 32, cell / 4 % 8, cell % 4, 1), 0);
        }
        for (int cell = 0; cell < 144; cell++) {
            CHECK.due("ORE of the holds", ship.cell(cell / 36, cell / 6 % 6, 0, cell % 6, 0), 0);
            CHECK.due("WATER of the holds", ship.cell(cell / 36, cell / 6 % 6, 0, cell % 6, 1), 0);
        }
    }

    private static void heightAndTop() {
        CHECK.by("A COLUMN's HEIGHT is one more than the greatest LAYER that has ORE (0 without), its TOP the CELL there.");
        for (int height = 0; height <= 4; height++) {
            SoupCargo cargo = new SoupCargo();
            for (int z = 0; z < height; z++) {
                cargo.heap(2, 6, z, 10 + z, 0);
            }
            cargo.sky(0, 1, 0);
            cargo.hours(1);
            for (int z = 0; z < 4; z++) {
                CHECK.due("rain at " + z + " of " + height, cargo.cell(NONE, 2, 6, z, 1), z == height - 1 ? 1 : 0);
            }
            CHECK.due("what is LOADED of " + height, cargo.load(2, 6, 0, 0) ? cargo.cell(0, 0, 0, 0, 0) : 0,
                height == 0 ? 0 : 9 + height);
        }
        CHECK.by("The constants: `NONE = -1`: None.");
        CHECK.due("NONE", NONE, -1);
    }

    private static void dayAndClock() {
        CHECK.by("NOW is an HOUR 0 .. 719 (0 at first); its DAY is NOW by 24, its CLOCK NOW modulo 24.");
        SoupCargo cargo = Scene.withLaws("sweat clock;");
        Check.code(cargo, "load 0 when day=0; load 1 when day=1; load 2 when day=2; load 3 when day=29;");
        cargo.heap(0, 0, 0, 1, 0);
        int[] hours = {0, 1, 23, 24, 47, 48, 695, 696, LAST};
        for (int hour : hours) {
            Scene.passTo(cargo, hour);
            CHECK.due("CLOCK at " + hour, cargo.told(3, NONE, 0, 0, 0), hour % 24);
            int[] days = {0, 1, 2, 29};
            for (int person = 0; person < 4; person++) {
                CHECK.due("DAY at " + hour, cargo.may(person, 0), hour / 24 == days[person] ? 1 : 0);
            }
        }
    }

    private static void skyAtFirst() {
        CHECK.by("RAIN and SWELL of each DAY 0 .. 29 are 0 .. 9 (0 at first).");
        SoupCargo cargo = Scene.withCode("load 0 when rain=0 and swell=0;");
        for (int day = 0; day < 30; day++) {
            Scene.passTo(cargo, 24 * day);
            CHECK.due("no RAIN and no SWELL on DAY " + day, cargo.may(0, 0), 1);
        }
    }

    private static void quotients() {
        CHECK.by("Quotients go downwards (to the lesser one).");
        SoupCargo cargo = new SoupCargo();
        cargo.heap(0, 0, 0, 99, 98);
        CHECK.due("WET of 98 by 99", cargo.cell(NONE, 0, 0, 0, 2), 0);
        cargo.heap(0, 0, 0, 99, 99);
        CHECK.due("WET of 99 by 99", cargo.cell(NONE, 0, 0, 0, 2), 1);
        cargo.heap(0, 0, 0, 99, 9999);
        CHECK.due("WET of 9999 by 99", cargo.cell(NONE, 0, 0, 0, 2), 101);
        cargo.heap(0, 0, 0, 2, 9999);
        CHECK.due("WET of 9999 by 2", cargo.cell(NONE, 0, 0, 0, 2), 4999);
        SoupCargo law = Scene.withLaws("sweat wet;");
        for (int ore : new int[] {1, 2, 3, 98, 99}) {
            law.heap(0, 0, 0, ore, 9998);
            CHECK.due("wet of 9998 by " + ore, law.told(3, NONE, 0, 0, 0), 9998 / ore);
        }
        CHECK.by("its WET is 0 without ORE, else WATER by ORE.");
        CHECK.due("WET without ORE", cargo.cell(NONE, 0, 0, 1, 2), 0);
        CHECK.due("WET without ORE in a HOLD", cargo.cell(0, 0, 0, 0, 2), 0);
        cargo.heap(0, 0, 0, 1, 9999);
        CHECK.due("WET of 9999 by 1", cargo.cell(NONE, 0, 0, 0, 2), 9999);
        cargo.heap(0, 0, 0, 1, 0);
        CHECK.due("WET without WATER", cargo.cell(NONE, 0, 0, 0, 2), 0);
    }

    private static void sorts() {
        CHECK.by("SORT is 0 .. 2, of all the ORE (0 at first).");
        SoupCargo cargo = Scene.withLaws("sweat sort;");
        cargo.heap(0, 0, 0, 1, 0);
        Scene.put(cargo, 1, 1, 1, 0);
        CHECK.due("SORT at first", cargo.told(3, NONE, 0, 0, 0), 0);
        for (int v = 2; v >= 0; v--) {
            CHECK.yes("sort", cargo.sort(v));
            CHECK.due("SORT", cargo.ship(10), v);
            CHECK.due("SORT of the heap", cargo.told(3, NONE, 0, 0, 0), v);
            CHECK.due("SORT of a HOLD", cargo.told(3, 1, 1, 0, 0), v);
        }
    }

    private static void skyEdges() {
        CHECK.by("RAIN and SWELL of a DAY: true;");
        for (int day : new int[] {0, 29}) {
            SoupCargo cargo = Scene.withCode("load 0 when rain=9; load 1 when swell=9; stop 0 when rain=0; stop 1 when swell=0;");
            CHECK.yes("sky", cargo.sky(day, 9, 0));
            Scene.passTo(cargo, 24 * day);
            for (int hour : new int[] {24 * day, 24 * day + 23}) {
                Scene.passTo(cargo, hour);
                CHECK.due("RAIN 9 at " + hour, cargo.may(0, 0), 1);
                CHECK.due("SWELL 0 at " + hour, cargo.may(1, 1), 1);
            }
            CHECK.yes("sky told again", cargo.sky(day, 0, 9));
            CHECK.due("RAIN 0", cargo.may(0, 1), 1);
            CHECK.due("SWELL 9", cargo.may(1, 0), 1);
        }
        SoupCargo next = Scene.withCode("load 0 when rain=9; load 1 when rain=0;");
        next.sky(1, 9, 9);
        Scene.passTo(next, 23);
        CHECK.due("not on the day before", next.may(1, 0), 1);
        Scene.passTo(next, 24);
        CHECK.due("on the day", next.may(0, 0), 1);
        Scene.passTo(next, 48);
        CHECK.due("not on the day after", next.may(1, 0), 1);
    }

    private static void heapEdges() {
        CHECK.by("THE HEAP has COLUMNS x, y 0 .. 7 of LAYERS z 0 .. 3 (0 lowest)");
        for (int corner = 0; corner < 4; corner++) {
            int x = corner / 2 * 7;
            int y = corner % 2 * 7;
            SoupCargo cargo = new SoupCargo();
            for (int z = 0; z < 4; z++) {
                CHECK.yes("LAYER " + z, cargo.heap(x, y, z, 10 + z, 20 + z));
            }
            CHECK.no("no LAYER 4", cargo.heap(x, y, 4, 1, 0));
            for (int z = 0; z < 4; z++) {
                CHECK.due("ORE at " + z, cargo.cell(NONE, x, y, z, 0), 10 + z);
                CHECK.due("WATER at " + z, cargo.cell(NONE, x, y, z, 1), 20 + z);
            }
            CHECK.due("nothing beside it", cargo.cell(NONE, 7 - x, y, 0, 0) + cargo.cell(NONE, x, 7 - y, 0, 0), 0);
        }
        CHECK.by("A CELL has ORE (tons 0 .. 99) and WATER (0 .. 9999;");
        SoupCargo cargo = new SoupCargo();
        CHECK.yes("the least ORE with the most WATER", cargo.heap(0, 0, 0, 1, 9999));
        CHECK.yes("the most of both", cargo.heap(0, 0, 0, 99, 9999));
        CHECK.due("ORE", cargo.cell(NONE, 0, 0, 0, 0), 99);
        CHECK.due("WATER", cargo.cell(NONE, 0, 0, 0, 1), 9999);
        CHECK.yes("nothing", cargo.heap(0, 0, 0, 0, 0));
        CHECK.due("no ORE", cargo.cell(NONE, 0, 0, 0, 0), 0);
        CHECK.due("no WATER", cargo.cell(NONE, 0, 0, 0, 1), 0);
    }

    private static void heapRefused() {
        CHECK.by("(ORE above nothing, or nothing below ORE, too; WATER without ORE)");
        refusedHeap(3, 99, 9999);
        refusedHeap(0, 0, 0);
        refusedHeap(0, 0, 1);
        refusedHeap(1, 0, 1);
        refusedHeap(1, 0, 9999);
        refusedHeap(2, 0, 1);
        refusedHeap(3, 0, 1);
        SoupCargo cargo = new SoupCargo();
        CHECK.no("ORE above nothing at LAYER 1", cargo.heap(0, 0, 1, 1, 0));
        CHECK.yes("nothing above nothing", cargo.heap(0, 0, 3, 0, 0));
        cargo.heap(0, 0, 0, 1, 0);
        cargo.heap(0, 0, 1, 1, 0);
        cargo.heap(0, 0, 2, 1, 0);
        CHECK.no("nothing two below ORE", cargo.heap(0, 0, 0, 0, 0));
        CHECK.no("nothing one below ORE", cargo.heap(0, 0, 1, 0, 0));
        CHECK.yes("nothing above all ORE", cargo.heap(0, 0, 3, 0, 0));
        CHECK.yes("the TOP off", cargo.heap(0, 0, 2, 0, 0));
        CHECK.yes("the next one off", cargo.heap(0, 0, 1, 0, 0));
        CHECK.yes("the last one off", cargo.heap(0, 0, 0, 0, 0));
        CHECK.no("ORE above what is off", cargo.heap(0, 0, 1, 1, 0));
    }

    /** On a column of two. */
    private static void refusedHeap(int z, int ore, int water) {
        SoupCargo cargo = new SoupCargo();
        twoHigh(cargo);
        CHECK.no("heap at " + z + " of " + ore + ", " + water, cargo.heap(4, 5, z, ore, water));
        CHECK.due("the view that tells that it did something",
            Twins.toldApart(HeapEdgesTest::twoHigh, twin -> twin.heap(4, 5, z, ore, water)), -1);
    }

    private static void twoHigh(SoupCargo cargo) {
        cargo.heap(4, 5, 0, 30, 31);
        cargo.heap(4, 5, 1, 40, 41);
    }

    private static void cellEdges() {
        CHECK.by("Of a CELL of THE HEAP (hold NONE: x, y, z) or of a HOLD (x its COLUMN, y not asked, z)");
        SoupCargo cargo = new SoupCargo();
        cargo.heap(7, 0, 0, 11, 0);
        Scene.put(cargo, 3, 5, 12, 0);
        Scene.put(cargo, 0, 0, 13, 0);
        CHECK.due("of THE HEAP", cargo.cell(NONE, 7, 0, 0, 0), 11);
        for (int y : new int[] {Integer.MIN_VALUE, -1, 0, 7, 8, Integer.MAX_VALUE}) {
            CHECK.due("of HOLD 3, y " + y, cargo.cell(3, 5, y, 0, 0), 12);
            CHECK.due("of HOLD 0, y " + y, cargo.cell(0, 0, y, 0, 0), 13);
        }
        CHECK.due("no COLUMN 6 in a HOLD", cargo.cell(0, 6, 0, 0, 0), NONE);
        CHECK.due("COLUMN 6 of THE HEAP", cargo.cell(NONE, 6, 0, 0, 0), 0);
        CHECK.due("no LAYER 4 in THE HEAP", cargo.cell(NONE, 0, 0, 4, 0), NONE);
        CHECK.due("LAYER 5 of a HOLD", cargo.cell(0, 0, 0, 5, 0), 0);
        CHECK.due("a refused what of a HOLD", cargo.cell(3, 5, 0, 0, 5), NONE);
        CHECK.due("a refused what without ORE", cargo.cell(3, 4, 0, 0, -1), NONE);
        CHECK.by("3 SHAKEN, 4 1 if SOUP, else 0.");
        CHECK.due("THE HEAP is not SHAKEN", cargo.cell(NONE, 7, 0, 0, 3), 0);
        CHECK.due("THE HEAP is no SOUP", cargo.cell(NONE, 7, 0, 0, 4), 0);
        CHECK.due("an empty CELL is not SHAKEN", cargo.cell(3, 5, 0, 1, 3), 0);
        CHECK.due("an empty CELL is no SOUP", cargo.cell(3, 5, 0, 1, 4), 0);
    }

    private static void hoursEdges() {
        CHECK.by("So many HOURS (1 .. 48) go by: NOW;");
        SoupCargo cargo = new SoupCargo();
        CHECK.due("hours(1)", cargo.hours(1), 1);
        CHECK.due("hours(48)", cargo.hours(48), 49);
        CHECK.by("NONE, and nothing is done, if one can't be, or beyond 719.");
        for (int n : new int[] {0, -1, 49, Integer.MIN_VALUE, Integer.MAX_VALUE, Integer.MAX_VALUE - 700}) {
            CHECK.due("hours(" + n + ")", cargo.hours(n), NONE);
            CHECK.due("NOW", cargo.ship(0), 49);
        }
        SoupCargo late = Scene.withLaws("dry 1;");
        late.heap(0, 0, 0, 1, 5000);
        Scene.passTo(late, 672);
        CHECK.due("48 to 720", late.hours(48), NONE);
        CHECK.due("nothing is done in part", late.ship(0), 672);
        CHECK.due("nothing dries", late.cell(NONE, 0, 0, 0, 1), 5000 - 672);
        CHECK.due("47 to 719", late.hours(47), LAST);
        CHECK.due("1 beyond 719", late.hours(1), NONE);
        CHECK.due("2 beyond 719", late.hours(2), NONE);
        CHECK.due("NOW stays", late.ship(0), LAST);
        CHECK.due("719 hours have gone by", late.cell(NONE, 0, 0, 0, 1), 5000 - LAST);
    }

    private static void brim() {
        CHECK.by("what would be more goes OUT, or into THE WELL)");
        for (int over = 0; over <= 9; over++) {
            SoupCargo cargo = new SoupCargo();
            cargo.heap(0, 0, 0, 1, 9990 + over);
            cargo.sky(0, 9, 0);
            cargo.hours(1);
            CHECK.due("WATER 9999 at most", cargo.cell(NONE, 0, 0, 0, 1), 9999);
            CHECK.due("OUT of rain", cargo.ship(7), over);
            CHECK.due("THE WELL", cargo.ship(6), 0);
        }
        SoupCargo dries = Scene.withLaws("dry 5 when water=9999; dry 1;");
        dries.heap(0, 0, 0, 1, 9999);
        dries.sky(0, 9, 0);
        dries.hours(1);
        CHECK.due("it is OUT before it dries", dries.cell(NONE, 0, 0, 0, 1), 9994);
        CHECK.due("OUT", dries.ship(7), 9);
    }

    private static void brimOnTheWayDown() {
        CHECK.by("what would be more goes OUT, or into THE WELL)");
        for (int given = 99; given <= 101; given++) {
            SoupCargo heap = Scene.withLaws("down water when layer=1;");
            heap.heap(0, 0, 0, 1, 9899);
            heap.heap(0, 0, 1, 1, given);
            heap.hours(1);
            CHECK.due("WATER of the lower one", heap.cell(NONE, 0, 0, 0, 1), Math.min(9999, 9899 + given));
            CHECK.due("the upper one has given all", heap.cell(NONE, 0, 0, 1, 1), 0);
            CHECK.due("OUT of a full CELL", heap.ship(7), Math.max(0, given - 100));
            CHECK.due("not into THE WELL", heap.ship(6), 0);
            SoupCargo ship = Scene.withLaws("down water when layer=1;");
            Scene.put(ship, 0, 0, 1, 9899);
            Scene.put(ship, 0, 0, 1, given);
            Scene.put(ship, 0, 5, 1, 9999);
            ship.arm(0, 99);
            ship.sail(0);
            ship.hours(1);
            CHECK.due("WATER of the lower one in a HOLD", ship.cell(0, 0, 0, 0, 1), Math.min(9999, 9899 + given));
            CHECK.due("into THE WELL", ship.ship(6), Math.max(0, given - 100));
            CHECK.due("not OUT", ship.ship(7), 0);
        }
        SoupCargo passes = Scene.withLaws("down 7 when layer=0; down 5;");
        passes.heap(0, 0, 0, 1, 9999);
        passes.heap(0, 0, 1, 1, 9999);
        passes.hours(1);
        CHECK.due("what it gives makes room for what it gets", passes.cell(NONE, 0, 0, 0, 1), 9997);
        CHECK.due("OUT below alone", passes.ship(7), 7);
    }

    private static void dryEdges() {
        CHECK.by("then less by its LAW dry (0 .. WATER; what is less or more counts as these).");
        int[][] cases = {{-1, 50}, {0, 50}, {1, 49}, {49, 1}, {50, 0}, {51, 0}, {9999, 0}};
        for (int[] one : cases) {
            SoupCargo cargo = Scene.withLaws(one[0] < 0 ? "dry 0-1;" : "dry " + one[0] + ";");
            cargo.heap(0, 0, 0, 1, 50);
            cargo.hours(1);
            CHECK.due("WATER with dry " + one[0], cargo.cell(NONE, 0, 0, 0, 1), one[1]);
            CHECK.due("OUT with dry " + one[0], cargo.ship(7), 0);
        }
        SoupCargo wraps = Scene.withLaws("dry 9999*9999*22;");
        wraps.heap(0, 0, 0, 1, 50);
        wraps.hours(1);
        CHECK.due("a LAW that wraps below 0", wraps.cell(NONE, 0, 0, 0, 1), 50);
        SoupCargo top = Scene.withLaws("dry 9999;");
        top.heap(0, 0, 0, 1, 50);
        top.heap(0, 0, 1, 1, 0);
        top.hours(1);
        CHECK.due("the TOP alone, though it has no WATER", top.cell(NONE, 0, 0, 0, 1), 50);
    }

    private static void downEdges() {
        CHECK.by("each CELL with ORE gives its LAW down (0 .. WATER) to the one below it, of LAYER 0 OUT.");
        int[][] cases = {{-1, 0}, {0, 0}, {1, 1}, {49, 49}, {50, 50}, {51, 50}, {9999, 50}};
        for (int[] one : cases) {
            SoupCargo cargo = Scene.withLaws("down " + (one[0] < 0 ? "0-1" : one[0]) + ";");
            cargo.heap(0, 0, 0, 1, 50);
            cargo.heap(7, 7, 0, 1, 0);
            cargo.heap(7, 7, 1, 1, 50);
            cargo.hours(1);
            CHECK.due("WATER with down " + one[0], cargo.cell(NONE, 0, 0, 0, 1), 50 - one[1]);
            CHECK.due("OUT with down " + one[0], cargo.ship(7), one[1]);
            CHECK.due("WATER above", cargo.cell(NONE, 7, 7, 1, 1), 50 - one[1]);
            CHECK.due("WATER of the one below it", cargo.cell(NONE, 7, 7, 0, 1), one[1]);
        }
        CHECK.by("Then all at once each CELL with ORE gives");
        SoupCargo cargo = Scene.withLaws("down water;");
        for (int z = 0; z < 4; z++) {
            cargo.heap(7, 7, z, 1, 1000 * (z + 1));
        }
        cargo.hours(1);
        for (int z = 0; z < 4; z++) {
            CHECK.due("WATER of LAYER " + z, cargo.cell(NONE, 7, 7, z, 1), z == 3 ? 0 : 1000 * (z + 2));
        }
        CHECK.due("OUT of LAYER 0", cargo.ship(7), 1000);
    }

    private static void rainEdges() {
        CHECK.by("THE HEAP: of each COLUMN that has ORE the TOP's WATER is RAIN of the DAY more");
        SoupCargo cargo = new SoupCargo();
        cargo.heap(0, 0, 0, 1, 0);
        for (int z = 0; z < 4; z++) {
            cargo.heap(7, 7, z, 1, 0);
        }
        cargo.sky(0, 1, 0);
        cargo.sky(1, 9, 0);
        cargo.hours(24);
        CHECK.due("a day of 1", cargo.cell(NONE, 0, 0, 0, 1), 24);
        CHECK.due("a day of 1 on a full COLUMN", cargo.cell(NONE, 7, 7, 3, 1), 24);
        cargo.hours(1);
        CHECK.due("an hour of 9", cargo.cell(NONE, 0, 0, 0, 1), 33);
        CHECK.due("nothing below the TOP", cargo.cell(NONE, 7, 7, 2, 1) + cargo.cell(NONE, 7, 7, 0, 1), 0);
        CHECK.due("nothing above the TOP", cargo.cell(NONE, 0, 0, 1, 1), 0);
        CHECK.due("nothing where there is no ORE", cargo.cell(NONE, 0, 1, 0, 1), 0);
        CHECK.due("OUT", cargo.ship(7), 0);
    }

    private static void lawLines() {
        CHECK.by("A LAW of a CELL is E of the first of its lines whose B is so (or that has none), 0 without");
        SoupCargo none = new SoupCargo();
        none.heap(0, 0, 0, 1, 7);
        for (int which = 0; which < 4; which++) {
            CHECK.due("without LAWS", none.told(which, NONE, 0, 0, 0), 0);
        }
        none.hours(48);
        CHECK.due("nothing goes without LAWS", none.cell(NONE, 0, 0, 0, 1), 7);
        SoupCargo others = Scene.withLaws("down 1; dry 2; soup 3;");
        others.heap(0, 0, 0, 1, 7);
        CHECK.due("without a line of its own", others.told(3, NONE, 0, 0, 0), 0);
        SoupCargo never = Scene.withLaws("down 5 when 1=2; down 6 when 2=1;");
        never.heap(0, 0, 0, 1, 7);
        CHECK.due("without a line that is so", never.told(0, NONE, 0, 0, 0), 0);
        SoupCargo first = Scene.withLaws("down 1; down 2; dry 3 when 1=1; dry 4; soup 5 when 1=2; soup 6; soup 7;");
        first.heap(0, 0, 0, 1, 7);
        CHECK.due("the first that has no B", first.told(0, NONE, 0, 0, 0), 1);
        CHECK.due("the first whose B is so", first.told(1, NONE, 0, 0, 0), 3);
        CHECK.due("the second, if the first is not so", first.told(2, NONE, 0, 0, 0), 6);
    }

    private static void light() {
        CHECK.by("lit (1 for a TOP of THE HEAP with x up to 3 at a CLOCK 6 .. 11, with x from 4 on at 12 .. 17, else 0)");
        for (int clock : new int[] {0, 5, 6, 11, 12, 17, 18, 23}) {
            for (int day = 0; day < 30; day += 29) {
                SoupCargo cargo = Scene.withLaws("sweat lit;");
                for (int x : new int[] {0, 3, 4, 7}) {
                    cargo.heap(x, 7, 0, 1, 0);
                    cargo.heap(x, 7, 1, 1, 0);
                }
                Scene.put(cargo, 0, 0, 1, 0);
                cargo.heap(7, 7, 0, 1, 0);
                cargo.heap(7, 7, 1, 1, 0);
                Scene.passTo(cargo, 24 * day + clock);
                for (int x : new int[] {0, 3, 4, 7}) {
                    boolean lit = x < 4 ? clock == 6 || clock == 11 : clock == 12 || clock == 17;
                    CHECK.due("TOP of x " + x + " at " + clock, cargo.told(3, NONE, x, 7, 1), lit ? 1 : 0);
                    CHECK.due("below it at " + clock, cargo.told(3, NONE, x, 7, 0), 0);
                    cargo.heap(x, 7, 1, 0, 0);
                    CHECK.due("the TOP now at " + clock, cargo.told(3, NONE, x, 7, 0), lit ? 1 : 0);
                }
                CHECK.due("in a HOLD at " + clock, cargo.told(3, 0, 0, 0, 0), 0);
            }
        }
    }

    private static void toldEdges() {
        CHECK.by("comes to NOW; 0 without ORE;");
        SoupCargo cargo = Scene.withLaws("down 9; dry 0-9; soup 8; sweat 7;");
        cargo.heap(7, 7, 0, 1, 5);
        for (int which = 0; which < 4; which++) {
            CHECK.due("without ORE above", cargo.told(which, NONE, 7, 7, 1), 0);
            CHECK.due("without ORE in a HOLD", cargo.told(which, 3, 5, 0, 5), 0);
        }
        CHECK.due("more than the WATER is told as it is", cargo.told(0, NONE, 7, 7, 0), 9);
        CHECK.due("less than 0 is told as it is", cargo.told(1, NONE, 7, 7, 0), -9);
        CHECK.by("shaken (of a HOLD's CELL, else 0)");
        SoupCargo sea = Scene.withLaws("sweat shaken;");
        Scene.put(sea, 0, 5, 1, 0);
        sea.heap(7, 7, 0, 1, 0);
        sea.sky(0, 0, 9);
        sea.sail(0);
        sea.hours(2);
        CHECK.due("of a HOLD's CELL", sea.told(3, 0, 5, 0, 0), 18);
        CHECK.due("of THE HEAP", sea.told(3, NONE, 7, 7, 0), 0);
    }
}
