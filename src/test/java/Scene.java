/** Heaps and ships that several tests begin with. Each stays well below the 512 calls of an object. */
final class Scene {
    private static final int BLANKS = 0x20202020;
    private static final String LAWS =
        "down water/4 when wet>2; dry 1+lit; soup shaken-90; sweat rain+10*clock+1000*sort;";

    private Scene() {
    }

    static SoupCargo withLaws(String laws) {
        SoupCargo cargo = new SoupCargo();
        if (Check.laws(cargo, laws) < 0) {
            throw new IllegalStateException("no laws: " + laws);
        }
        return cargo;
    }

    static SoupCargo withCode(String code) {
        SoupCargo cargo = new SoupCargo();
        if (Check.code(cargo, code) < 0) {
            throw new IllegalStateException("no code: " + code);
        }
        return cargo;
    }

    /** A ship with ore in the columns of hold 0 from port on, as many cells as told, each of 10 tons. */
    static SoupCargo loaded(String laws, int... heights) {
        SoupCargo cargo = withLaws(laws);
        for (int column = 0; column < heights.length; column++) {
            for (int n = 0; n < heights[column]; n++) {
                put(cargo, 0, column, 10, 0);
            }
        }
        return cargo;
    }

    /** By way of the heap's column 7, 7. */
    static void put(SoupCargo cargo, int hold, int column, int ore, int water) {
        if (!cargo.heap(7, 7, 0, ore, water) || !cargo.load(7, 7, hold, column)) {
            throw new IllegalStateException("not loaded");
        }
    }

    /** The heights of hold 0, a digit a column from port on. */
    static String heights(SoupCargo cargo) {
        StringBuilder heights = new StringBuilder();
        for (int column = 0; column < 6; column++) {
            int height = 0;
            while (height < 6 && cargo.cell(0, column, 0, height, 0) > 0) {
                height++;
            }
            heights.append(height);
        }
        return heights.toString();
    }

    static void passTo(SoupCargo cargo, int hour) {
        for (int now = cargo.ship(0); now < hour; now = cargo.ship(0)) {
            cargo.hours(Math.min(48, hour - now));
        }
    }

    /** A state whose next one has this DRAW. */
    static int stateBefore(int draw) {
        int state = 0;
        while ((1664525 * state + 1013904223) >>> 30 != draw) {
            state++;
        }
        return state;
    }

    static int feedBlanks(SoupCargo cargo) {
        return cargo.feed(BLANKS, BLANKS, BLANKS, BLANKS, BLANKS);
    }

    /** Something of everything: a heap with full corners, a ship in port, papers, ports, a list, a begun tape. */
    static void inPort(SoupCargo cargo) {
        Check.laws(cargo, LAWS);
        Check.code(cargo, "load 0 when said<15 and can<12; stop 1 when rain>7; test 2 when age>1 or swell=3;");
        cargo.sort(1);
        for (int column = 0; column < 4; column++) {
            for (int z = 0; z < 4; z++) {
                cargo.heap(column / 2 * 7, column % 2 * 7, z, 5 + column + z, 40 * (z + 1));
            }
        }
        cargo.heap(3, 4, 0, 60, 500);
        cargo.sky(0, 3, 4);
        cargo.sky(1, 0, 7);
        for (int n = 0; n < 8; n++) {
            put(cargo, n % 4, 3 + n % 3, 20 + n, 100 * n);
        }
        for (int z = 0; z < 4; z++) {
            cargo.heap(7, 7, z, 8 + z, 50 * (z + 1));
        }
        cargo.can(0, 0, 1);
        cargo.hours(3);
        cargo.can(7, 0, 2);
        cargo.paper(11);
        cargo.place(0, 0, 3, 0);
        cargo.place(2, 6, 5, 1);
        cargo.place(7, 3, 3, 3);
        cargo.step(4);
        cargo.arm(1, 30);
        cargo.arm(7, 34);
        cargo.port(30);
        cargo.port(4);
        for (int n = 0; n < 9; n++) {
            cargo.list(n % 4, n, n % 3, n % 2 == 0);
        }
        Check.laws(cargo, "down 1/0;");
        Check.laws(cargo, LAWS);
        Check.feed(cargo, "dry 3; dow");
    }

    static void atSea(SoupCargo cargo) {
        inPort(cargo);
        cargo.sail(stateBefore(1));
        cargo.hours(2);
    }

    /** All that has an end is at its end, but for the tape: cans, ports, the list, a hold's column. */
    static void full(SoupCargo cargo) {
        Check.laws(cargo, "down 1; soup 1 when clock>3;");
        Check.code(cargo, "load 0 when can=9; stop 1 when age=0;");
        for (int n = 0; n < 6; n++) {
            put(cargo, 2, 5, 9, 9999);
            cargo.port(400 - 50 * n);
        }
        cargo.heap(0, 0, 0, 9, 89);
        cargo.heap(0, 0, 1, 9, 89);
        for (int n = 0; n < 60; n++) {
            cargo.can(0, 0, n % 2);
        }
        for (int n = 0; n < 200; n++) {
            cargo.list(n % 7, n % 12, n % 3, n % 4 == 0);
        }
    }

    static void fullTape(SoupCargo cargo) {
        inPort(cargo);
        cargo.end(0);
        for (int n = 0; n < 30; n++) {
            feedBlanks(cargo);
        }
    }

    static void gone(SoupCargo cargo) {
        inPort(cargo);
        cargo.arm(7, 0);
        cargo.sail(5);
        cargo.hours(2);
    }
}
