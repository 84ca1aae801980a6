/** Promises 1 to 5, 11 and 17: a new object, sort, sky, the heap's cells, its hours and its laws. */
public final class HeapTest {
    private static final int BEYOND = -1000000;
    private static final Check CHECK = new Check("HeapTest");

    public static void main(String[] args) {
        newObject();
        sortAndSky();
        heapCells();
        cellAnswers();
        hoursAndTheirEdges();
        rainThenDry();
        waterGoesDownAllAtOnce();
        whatIsTooMuchGoesOut();
        lawsAreHeldToTheWater();
        sunByHalves();
        toldValues();
        CHECK.close();
    }

    private static void newObject() {
        CHECK.by("`SoupCargo()`: HOUR 0, in port, nothing there.");
        SoupCargo cargo = new SoupCargo();
        CHECK.due("NONE", SoupCargo.NONE, -1);
        int[] due = {0, 0, 0, 2000, 0, -1, 0, 0, 0, 0, 0, BEYOND};
        for (int what = 0; what < due.length; what++) {
            CHECK.due("new ship(" + what + ")", cargo.ship(what), due[what]);
        }
        CHECK.due("new ship(-1)", cargo.ship(-1), BEYOND);
        for (int cell = 0; cell < 256; cell++) {
            CHECK.due("new heap", cargo.cell(-1, cell / 32, cell / 4 % 8, cell % 4, 0), 0);
        }
        for (int cell = 0; cell < 144; cell++) {
            CHECK.due("new holds", cargo.cell(cell / 36, cell / 6 % 6, 0, cell % 6, 0), 0);
        }
    }

    private static void sortAndSky() {
        CHECK.by("SORT: true; false if it can't be.");
        SoupCargo cargo = new SoupCargo();
        CHECK.yes("sort(2)", cargo.sort(2));
        CHECK.no("sort(3)", cargo.sort(3));
        CHECK.no("sort(-1)", cargo.sort(-1));
        CHECK.due("ship(10)", cargo.ship(10), 2);
        Check.laws(cargo, "sweat 100*sort+rain;");
        cargo.heap(0, 0, 0, 1, 0);
        CHECK.by("RAIN and SWELL of a DAY: true; false, and nothing is done, if one can't be.");
        CHECK.yes("sky(0, 9, 9)", cargo.sky(0, 9, 9));
        CHECK.yes("sky(29, 0, 0)", cargo.sky(29, 0, 0));
        CHECK.no("sky(0, 10, 0)", cargo.sky(0, 10, 0));
        CHECK.no("sky(0, -1, 0)", cargo.sky(0, -1, 0));
        CHECK.no("sky(0, 0, 10)", cargo.sky(0, 0, 10));
        CHECK.no("sky(0, 0, -1)", cargo.sky(0, 0, -1));
        CHECK.no("sky(30, 0, 0)", cargo.sky(30, 0, 0));
        CHECK.no("sky(-1, 0, 0)", cargo.sky(-1, 0, 0));
        CHECK.due("told(3) of sort and rain", cargo.told(3, -1, 0, 0, 0), 209);
        cargo.hours(24);
        CHECK.due("told(3) on the next day", cargo.told(3, -1, 0, 0, 0), 200);
    }

    private static void heapCells() {
        CHECK.by("ORE and WATER of a CELL of THE HEAP: true; false, and nothing is done, if one can't be");
        SoupCargo cargo = new SoupCargo();
        CHECK.yes("heap at the edge", cargo.heap(7, 7, 0, 99, 9999));
        CHECK.no("ore 100", cargo.heap(7, 7, 1, 100, 0));
        CHECK.no("ore -1", cargo.heap(7, 7, 1, -1, 0));
        CHECK.no("water 10000", cargo.heap(7, 7, 1, 1, 10000));
        CHECK.no("water -1", cargo.heap(7, 7, 1, 1, -1));
        CHECK.no("x 8", cargo.heap(8, 0, 0, 1, 0));
        CHECK.no("y 8", cargo.heap(0, 8, 0, 1, 0));
        CHECK.no("z 4", cargo.heap(7, 7, 4, 1, 0));
        CHECK.no("x -1", cargo.heap(-1, 0, 0, 1, 0));
        CHECK.no("y -1", cargo.heap(0, -1, 0, 1, 0));
        CHECK.no("z -1", cargo.heap(0, 0, -1, 1, 0));
        CHECK.no("ore above nothing", cargo.heap(7, 7, 2, 1, 0));
        CHECK.yes("nothing above nothing", cargo.heap(7, 7, 3, 0, 0));
        CHECK.yes("the next layer", cargo.heap(7, 7, 1, 5, 3));
        CHECK.no("nothing below ore", cargo.heap(7, 7, 0, 0, 0));
        CHECK.yes("other ore below ore", cargo.heap(7, 7, 0, 10, 7));
        CHECK.no("water without ore", cargo.heap(7, 7, 1, 0, 1));
        CHECK.due("what a refused call leaves", cargo.cell(-1, 7, 7, 1, 1), 3);
        CHECK.yes("the top is taken off", cargo.heap(7, 7, 1, 0, 0));
        CHECK.due("no ore there", cargo.cell(-1, 7, 7, 1, 0), 0);
        CHECK.due("no water there", cargo.cell(-1, 7, 7, 1, 1), 0);
        CHECK.yes("then the lower one", cargo.heap(7, 7, 0, 0, 0));
    }

    private static void cellAnswers() {
        CHECK.by("what 0 ORE, 1 WATER, 2 WET, 3 SHAKEN, 4 1 if SOUP, else 0. NONE if one can't be, or another what.");
        SoupCargo cargo = new SoupCargo();
        cargo.heap(2, 3, 0, 10, 59);
        int[] due = {10, 59, 5, 0, 0, -1};
        for (int what = 0; what < due.length; what++) {
            CHECK.due("cell what " + what, cargo.cell(-1, 2, 3, 0, what), due[what]);
        }
        CHECK.due("cell what -1", cargo.cell(-1, 2, 3, 0, -1), -1);
        CHECK.due("wet without ore", cargo.cell(-1, 2, 3, 1, 2), 0);
        CHECK.due("z 4", cargo.cell(-1, 2, 3, 4, 0), -1);
        CHECK.due("x 8", cargo.cell(-1, 8, 3, 0, 0), -1);
        CHECK.due("y 8", cargo.cell(-1, 2, 8, 0, 0), -1);
        CHECK.due("y -1", cargo.cell(-1, 2, -1, 0, 0), -1);
        CHECK.due("hold -2", cargo.cell(-2, 2, 3, 0, 0), -1);
        CHECK.due("hold 4", cargo.cell(4, 2, 3, 0, 0), -1);
        CHECK.due("hold's column 6", cargo.cell(3, 6, 0, 0, 0), -1);
        CHECK.due("hold's layer 6", cargo.cell(3, 5, 0, 6, 0), -1);
        CHECK.due("hold's y is not asked", cargo.cell(3, 5, Integer.MIN_VALUE, 5, 0), 0);
    }

    private static void hoursAndTheirEdges() {
        CHECK.by("NOW is one more in the end.");
        SoupCargo cargo = new SoupCargo();
        CHECK.due("hours(0)", cargo.hours(0), -1);
        CHECK.due("hours(-1)", cargo.hours(-1), -1);
        CHECK.due("hours(49)", cargo.hours(49), -1);
        CHECK.due("hours(max)", cargo.hours(Integer.MAX_VALUE), -1);
        CHECK.due("hours(48)", cargo.hours(48), 48);
        for (int i = 0; i < 13; i++) {
            cargo.hours(48);
        }
        CHECK.due("hours(48) to 720", cargo.hours(48), -1);
        CHECK.due("NOW", cargo.ship(0), 672);
        CHECK.due("hours(47)", cargo.hours(47), 719);
        CHECK.due("hours(1) beyond 719", cargo.hours(1), -1);
        CHECK.due("NOW at the last", cargo.ship(0), 719);
    }

    private static void rainThenDry() {
        CHECK.by("AN HOUR goes by. THE HEAP: of each COLUMN that has ORE the TOP's WATER is RAIN of the DAY more, then"
            + " less by its LAW dry");
        SoupCargo cargo = new SoupCargo();
        Check.laws(cargo, "dry water/2 when layer=1; dry 100;");
        cargo.heap(0, 0, 0, 10, 40);
        cargo.heap(0, 0, 1, 10, 1);
        cargo.sky(0, 5, 0);
        cargo.hours(1);
        CHECK.due("rain first, then dry", cargo.cell(-1, 0, 0, 1, 1), 3);
        CHECK.due("rain and sun for the top alone", cargo.cell(-1, 0, 0, 0, 1), 40);
        CHECK.due("what dries does not go out", cargo.ship(7), 0);
        CHECK.due("no rain where no ore is", cargo.cell(-1, 1, 0, 0, 1), 0);
        cargo.hours(23);
        cargo.hours(1);
        CHECK.due("the next day is dry", cargo.cell(-1, 0, 0, 1, 1), 3);
    }

    private static void waterGoesDownAllAtOnce() {
        CHECK.by("Then all at once each CELL with ORE gives its LAW down (0 .. WATER) to the one below it, of LAYER 0"
            + " OUT.");
        SoupCargo cargo = new SoupCargo();
        Check.laws(cargo, "down water;");
        for (int z = 0; z < 4; z++) {
            cargo.heap(4, 4, z, 10, 10 * (z + 1));
        }
        cargo.hours(1);
        int[] due = {20, 30, 40, 0};
        for (int z = 0; z < 4; z++) {
            CHECK.due("layer " + z, cargo.cell(-1, 4, 4, z, 1), due[z]);
        }
        CHECK.due("OUT", cargo.ship(7), 10);
        CHECK.due("THE WELL", cargo.ship(6), 0);
    }

    private static void whatIsTooMuchGoesOut() {
        CHECK.by("what would be more goes OUT, or into THE WELL)");
        SoupCargo cargo = new SoupCargo();
        Check.laws(cargo, "down 30 when layer=1; dry water-9990 when water>9990; down 10 when water = 9000;");
        cargo.heap(0, 0, 0, 1, 9999);
        cargo.heap(0, 0, 1, 1, 9999);
        cargo.sky(0, 9, 0);
        cargo.hours(1);
        CHECK.due("rain over the brim is out before it dries", cargo.cell(-1, 0, 0, 1, 1), 9990 - 30);
        CHECK.due("a full cell gets no more", cargo.cell(-1, 0, 0, 0, 1), 9999);
        CHECK.due("OUT has both", cargo.ship(7), 9 + 30);
    }

    private static void lawsAreHeldToTheWater() {
        CHECK.by("(0 .. WATER; what is less or more counts as these)");
        SoupCargo cargo = new SoupCargo();
        Check.laws(cargo, "down 0-5 when sort=0; down 9999; dry 0-7 when sort=0; dry 9999 when sort=2;");
        cargo.heap(0, 0, 0, 1, 50);
        cargo.hours(1);
        CHECK.due("below 0 counts as 0", cargo.cell(-1, 0, 0, 0, 1), 50);
        CHECK.due("told as it is", cargo.told(0, -1, 0, 0, 0), -5);
        cargo.sort(1);
        cargo.hours(1);
        CHECK.due("above the water counts as it", cargo.cell(-1, 0, 0, 0, 1), 0);
        CHECK.due("OUT", cargo.ship(7), 50);
        CHECK.due("told as it is, above", cargo.told(0, -1, 0, 0, 0), 9999);
        cargo.heap(0, 0, 0, 1, 50);
        cargo.sort(2);
        cargo.hours(1);
        CHECK.due("dried up", cargo.cell(-1, 0, 0, 0, 1), 0);
        CHECK.due("OUT stays", cargo.ship(7), 50);
    }

    private static void sunByHalves() {
        CHECK.by("lit (1 for a TOP of THE HEAP with x up to 3 at a CLOCK 6 .. 11, with x from 4 on at 12 .. 17, else"
            + " 0)");
        for (int hour = 0; hour < 48; hour++) {
            SoupCargo cargo = Scene.withLaws("sweat lit*100+clock;");
            for (int x = 0; x < 8; x++) {
                cargo.heap(x, 1, 0, 1, 0);
                cargo.heap(x, 1, 1, 1, 0);
            }
            cargo.load(0, 1, 0, 0);
            Scene.passTo(cargo, hour);
            int clock = hour % 24;
            for (int x = 1; x < 8; x++) {
                boolean lit = x <= 3 ? clock >= 6 && clock <= 11 : clock >= 12 && clock <= 17;
                CHECK.due("top " + x + " at " + hour, cargo.told(3, -1, x, 1, 1), (lit ? 100 : 0) + clock);
                CHECK.due("under it " + x + " at " + hour, cargo.told(3, -1, x, 1, 0), clock);
            }
            CHECK.due("never in a hold at " + hour, cargo.told(3, 0, 0, 0, 0), clock);
        }
    }

    private static void toldValues() {
        CHECK.by("What the LAW down (0), dry (1), soup (2) or sweat (3) of a CELL (told as for cell()) comes to NOW; 0"
            + " without ORE; NONE - 999999 if one can't be.");
        SoupCargo cargo = new SoupCargo();
        Check.laws(cargo, "down 1 when wet>5; down 2 when water>8; dry ore; soup layer; sweat shaken;");
        cargo.heap(0, 0, 0, 3, 18);
        cargo.heap(0, 0, 1, 3, 17);
        cargo.heap(0, 0, 2, 3, 8);
        CHECK.due("the first line that is so", cargo.told(0, -1, 0, 0, 0), 1);
        CHECK.due("the second", cargo.told(0, -1, 0, 0, 1), 2);
        CHECK.due("no line", cargo.told(0, -1, 0, 0, 2), 0);
        CHECK.due("dry", cargo.told(1, -1, 0, 0, 2), 3);
        CHECK.due("soup", cargo.told(2, -1, 0, 0, 2), 2);
        CHECK.due("sweat", cargo.told(3, -1, 0, 0, 2), 0);
        CHECK.due("without ore", cargo.told(1, -1, 0, 0, 3), 0);
        CHECK.due("which 4", cargo.told(4, -1, 0, 0, 0), BEYOND);
        CHECK.due("which -1", cargo.told(-1, -1, 0, 0, 0), BEYOND);
        CHECK.due("no such cell", cargo.told(0, -1, 0, 0, 4), BEYOND);
        CHECK.due("no such hold", cargo.told(0, 4, 0, 0, 0), BEYOND);
        CHECK.due("no such column", cargo.told(0, 0, 6, 0, 0), BEYOND);
        CHECK.due("hold's y is not asked", cargo.told(0, 0, 5, 99, 5), 0);
    }
}
