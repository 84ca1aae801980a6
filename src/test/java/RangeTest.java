import java.util.Arrays;
import java.util.function.Consumer;

/**
 * Every argument of every call at its least and its greatest, which are taken, and below and above them, which is
 * refused and does nothing: first when all else is well, in port and at sea.
 */
public final class RangeTest {
    private static final int NONE = SoupCargo.NONE;
    private static final int BEYOND = NONE - 999999;
    private static final Check CHECK = new Check("RangeTest");
    /** A range for an argument that is not asked, or whose range hangs on another. */
    private static final int[] ANY = {};

    public static void main(String[] args) {
        heapCalls();
        textCalls();
        shipCalls();
        paperCalls();
        listCalls();
        CHECK.close();
    }

    private static int[] range(int least, int greatest) {
        return new int[] {least, greatest};
    }

    private static int[] args(int... args) {
        return args;
    }

    private static void heapCalls() {
        CHECK.by("SORT: true; false if it can't be.");
        call("sort", 0, args(1), range(0, 2));
        CHECK.by("RAIN and SWELL of a DAY: true; false, and nothing is done, if one can't be.");
        call("sky", 0, args(0, 9, 0), range(0, 29), range(0, 9), range(0, 9));
        call("sky", 0, args(29, 0, 9), range(0, 29), range(0, 9), range(0, 9));
        CHECK.by("ORE and WATER of a CELL of THE HEAP: true; false, and nothing is done, if one can't be");
        call("heap", 0, args(0, 7, 3, 99, 9999), range(0, 7), range(0, 7), range(0, 3), range(1, 99), range(0, 9999));
        call("heap", 0, args(7, 0, 0, 1, 0), range(0, 7), range(0, 7), range(0, 3), range(1, 99), range(0, 9999));
        call("heap", 0, args(7, 7, 3, 0, 0), range(0, 7), range(0, 7), ANY, range(0, 99), range(0, 0));
        CHECK.by("3 SHAKEN, 4 1 if SOUP, else 0. NONE if one can't be, or another what.");
        call("cell", NONE, args(NONE, 5, 5, 3, 4), range(NONE, 3), range(0, 7), range(0, 7), range(0, 3), range(0, 4));
        call("cell", NONE, args(0, 5, 0, 5, 0), range(0, 3), range(0, 5), ANY, range(0, 5), range(0, 4));
        call("cell", NONE, args(3, 0, -5, 0, 3), range(0, 3), range(0, 5), ANY, range(0, 5), range(0, 4));
        CHECK.by("So many HOURS (1 .. 48) go by: NOW; NONE, and nothing is done, if one can't be");
        call("hours", NONE, args(2), range(1, 48));
        CHECK.by("comes to NOW; 0 without ORE; NONE - 999999 if one can't be.");
        call("told", BEYOND, args(0, NONE, 0, 0, 3), range(0, 3), range(NONE, 3), range(0, 7), range(0, 7), range(0, 3));
        call("told", BEYOND, args(3, 3, 5, 9, 5), range(0, 3), range(0, 3), range(0, 5), ANY, range(0, 5));
    }

    private static void textCalls() {
        CHECK.by("true; false, changing nothing, if it has not so many, or n is below 0.");
        call("end", 0, args(5), range(0, "dry 3; dow".length()));
        CHECK.by("NONE for another what.");
        isTaken("fault", NONE, args(0));
        refused("fault", NONE, Scene::inPort, args(-1), args(2), args(Integer.MIN_VALUE), args(Integer.MAX_VALUE));
    }

    private static void shipCalls() {
        CHECK.by("LOADED: true; false, and nothing is done, if one can't be");
        inPortAlone("load", 0, args(0, 7, 3, 0), ANY, ANY, range(0, 3), range(0, 5));
        corners("load", args(0, 0, 0, 5));
        refused("load", 0, Scene::inPort, args(-1, 0, 0, 0), args(8, 0, 0, 0), args(0, -1, 0, 0), args(0, 8, 0, 0),
            args(Integer.MIN_VALUE, 7, 0, 0), args(7, Integer.MAX_VALUE, 0, 0));
        CHECK.by("Her ARM at 10 k degrees (k 0 .. 6; 7: LIMIT): true; false if one can't be.");
        call("arm", 0, args(0, 0), range(0, 7), range(0, 99));
        call("arm", 0, args(6, 90), range(0, 7), range(0, 99));
        call("arm", 0, args(7, 45), range(0, 7), range(0, 90));
        CHECK.by("10 SORT. NONE - 999999 for another what.");
        call("ship", BEYOND, args(3), range(0, 10));
        CHECK.by("Her ARM at a degree 0 .. 60, in tenths (ten times ARM); NONE if it can't be.");
        call("arms", NONE, args(31), range(0, 60));
        CHECK.by("SPLIT for T CELLS: what 0 WORST, 1 + h how many in HOLD h. NONE if one can't be, or another what.");
        call("split", NONE, args(100, 2), range(0, 144), range(0, 4));
        call("split", NONE, args(0, 0), range(0, 144), range(0, 4));
        call("split", NONE, args(144, 4), range(0, 144), range(0, 4));
        CHECK.by("A PORT: its number; NONE if one can't be");
        call("port", NONE, args(7), range(1, 400));
    }

    private static void paperCalls() {
        CHECK.by("A CAN: its number; NONE if there is no ORE, one can't be");
        corners("can", args(0, 0, 3));
        corners("can", args(0, 0, 0));
        refused("can", NONE, Scene::inPort, args(0, 0, -1), args(0, 0, 4), args(-1, 0, 0), args(8, 0, 0),
            args(0, -1, 0), args(0, 8, 0), args(7, 8, 3), args(Integer.MAX_VALUE, 0, 0), args(0, Integer.MIN_VALUE, 0),
            args(0, 0, Integer.MAX_VALUE));
        CHECK.by("STEP: true; false if it can't be.");
        call("step", 0, args(7), range(0, 20));
        CHECK.by("what 0 the least, 1 the greatest (it may be below the least). NONE if one can't be, or another what.");
        call("span", NONE, args(0, 7, 0, 719, 1), range(0, 7), range(0, 7), range(0, 3), range(0, 719), range(0, 1));
        call("span", NONE, args(7, 0, 3, 0, 0), range(0, 7), range(0, 7), range(0, 3), range(0, 719), range(0, 1));
        CHECK.by("THE MEAN as of CANS up to an HOUR: what 0 the least, 1 the greatest, 2 1 if THE PAPER COULD be so, else 0."
            + " NONE if one can't be");
        call("mean", NONE, args(0, 2), range(0, 719), range(0, 2));
        call("mean", NONE, args(719, 0), range(0, 719), range(0, 2));
        CHECK.by("THE PAPER says (NONE: there is none): true; false if it can't be.");
        call("paper", 0, args(50), range(NONE, 99));
        CHECK.by("A PLACE is a CELL of THE HEAP: true; false if one can't be.");
        call("place", 0, args(0, 7, 0, 3), range(0, 7), range(0, 7), range(0, 7), range(0, 3));
        call("place", 0, args(7, 0, 7, 0), range(0, 7), range(0, 7), range(0, 7), range(0, 3));
        CHECK.by("the set (of PLACES that were told); NONE if there is none, or one can't be.");
        isTaken("fair", NONE, args(20));
        refused("fair", NONE, Scene::inPort, args(-1), args(21), args(Integer.MIN_VALUE), args(Integer.MAX_VALUE));
        CHECK.by("what 0 MAY load, 1 MAY stop, 2 MUST test: 1 or 0. NONE if one can't be, or another what.");
        call("may", NONE, args(0, 2), range(0, 3), range(0, 2));
        call("may", NONE, args(3, 0), range(0, 3), range(0, 2));
        CHECK.by("LET for w 0 .. 20: what 0 how many");
        call("let", NONE, args(0, 0), range(0, 20), range(0, 1));
        call("let", NONE, args(20, 0), range(0, 20), range(0, 0));
        refused("let", NONE, Scene::inPort, args(0, 2), args(0, -1), args(20, 2), args(5, Integer.MAX_VALUE));
    }

    private static void listCalls() {
        CHECK.by("PORT k: 1 if she REACHES it, else 0 (k NONE: THE BEST, NONE if none is reached). NONE if one can't be");
        refused("reach", NONE, Scene::atSea, args(-2), args(2), args(5), args(6), args(Integer.MIN_VALUE),
            args(Integer.MAX_VALUE));
        CHECK.by("A SHIP on the LIST: how many; NONE if one can't be");
        call("list", NONE, args(0, 11, 0, 1), range(0, 7), range(0, 11), range(0, 2), ANY);
        call("list", NONE, args(7, 0, 2, 0), range(0, 7), range(0, 11), range(0, 2), ANY);
        CHECK.by("RISK (harbour, month, sort: NONE not told): what 0 LOST and 1, 1 all and 2; 2 THE WORST HARBOUR (nothing"
            + " of these asked). NONE if one can't be");
        call("risk", NONE, args(0, NONE, 2, 0), range(NONE, 7), range(NONE, 11), range(NONE, 2), range(0, 2));
        call("risk", NONE, args(NONE, 11, NONE, 1), range(NONE, 7), range(NONE, 11), range(NONE, 2), range(0, 2));
    }

    private static void call(String name, int refusal, int[] base, int[]... ranges) {
        inPortAlone(name, refusal, base, ranges);
        refusedBeyond(name, refusal, Scene::atSea, base, ranges);
    }

    private static void inPortAlone(String name, int refusal, int[] base, int[]... ranges) {
        refusedBeyond(name, refusal, Scene::inPort, base, ranges);
        for (int i = 0; i < base.length; i++) {
            for (int edge : ranges[i]) {
                isTaken(name, refusal, with(base, i, edge));
            }
        }
    }

    private static void refusedBeyond(String name, int refusal, Consumer<SoupCargo> past, int[] base, int[][] ranges) {
        for (int i = 0; i < base.length; i++) {
            if (ranges[i].length == 2) {
                int least = ranges[i][0];
                int greatest = ranges[i][1];
                refused(name, refusal, past, with(base, i, least - 1), with(base, i, greatest + 1),
                    with(base, i, least - 257), with(base, i, greatest + 65536), with(base, i, Integer.MIN_VALUE),
                    with(base, i, Integer.MAX_VALUE));
            }
        }
    }

    private static void corners(String name, int[] base) {
        for (int corner = 0; corner < 4; corner++) {
            int[] args = base.clone();
            args[0] = corner / 2 * 7;
            args[1] = corner % 2 * 7;
            isTaken(name, name.equals("load") ? 0 : NONE, args);
        }
    }

    private static int[] with(int[] base, int i, int v) {
        int[] args = base.clone();
        args[i] = v;
        return args;
    }

    private static void isTaken(String name, int refusal, int[] args) {
        SoupCargo cargo = new SoupCargo();
        Scene.inPort(cargo);
        CHECK.no("whether it is refused: " + name + Arrays.toString(args), Calls.answer(cargo, name, args) == refusal);
    }

    /** Each of these calls is refused, and does nothing. */
    private static void refused(String name, int refusal, Consumer<SoupCargo> past, int[]... calls) {
        for (int[] args : calls) {
            SoupCargo cargo = new SoupCargo();
            past.accept(cargo);
            CHECK.due(name + Arrays.toString(args), Calls.answer(cargo, name, args), refusal);
            CHECK.due("the view that tells that " + name + Arrays.toString(args) + " did something",
                Twins.toldApart(past, twin -> Calls.answer(twin, name, args)), -1);
        }
    }
}
