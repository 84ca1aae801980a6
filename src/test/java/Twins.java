import java.util.ArrayList;
import java.util.List;
import java.util.function.BiConsumer;
import java.util.function.Consumer;

/**
 * Two objects with one past, of which one is asked something that is refused: nothing that can be asked later may tell
 * them apart. Each view looks at twins of its own, so that no object is asked more than 512 times.
 */
final class Twins {
    private static final String SWELL_BITS = "load 0 when swell-swell/2*2=1; load 1 when swell/2-swell/4*2=1;"
        + "load 2 when swell/4-swell/8*2=1; load 3 when swell/8=1;";
    private static final List<BiConsumer<SoupCargo, List<Integer>>> VIEWS = views();

    private Twins() {
    }

    private static List<BiConsumer<SoupCargo, List<Integer>>> views() {
        List<BiConsumer<SoupCargo, List<Integer>>> views = new ArrayList<>();
        for (int i = 0; i < 4; i++) {
            int part = i;
            views.add((cargo, seen) -> heap(cargo, seen, 2 * part));
            views.add((cargo, seen) -> hold(cargo, seen, part));
            views.add((cargo, seen) -> rolls(cargo, seen, 20 + 9 * part));
        }
        views.add(Twins::ship);
        views.add((cargo, seen) -> tape(cargo, seen, true));
        views.add((cargo, seen) -> tape(cargo, seen, false));
        views.add(Twins::papers);
        views.add(Twins::counts);
        views.add(Twins::sky);
        return views;
    }

    /** Answers the number of the first view that tells them apart, or -1. */
    static int toldApart(Consumer<SoupCargo> past, Consumer<SoupCargo> refused) {
        for (int i = 0; i < VIEWS.size(); i++) {
            List<Integer> plain = new ArrayList<>();
            List<Integer> after = new ArrayList<>();
            SoupCargo one = new SoupCargo();
            past.accept(one);
            VIEWS.get(i).accept(one, plain);
            SoupCargo other = new SoupCargo();
            past.accept(other);
            refused.accept(other);
            VIEWS.get(i).accept(other, after);
            if (!plain.equals(after)) {
                return i;
            }
        }
        return -1;
    }

    private static void heap(SoupCargo cargo, List<Integer> seen, int firstX) {
        for (int x = firstX; x < firstX + 2; x++) {
            for (int cell = 0; cell < 32; cell++) {
                seen.add(cargo.cell(-1, x, cell / 4, cell % 4, 0));
                seen.add(cargo.cell(-1, x, cell / 4, cell % 4, 1));
            }
        }
    }

    private static void hold(SoupCargo cargo, List<Integer> seen, int hold) {
        for (int cell = 0; cell < 36; cell++) {
            for (int what = 0; what < 5; what++) {
                seen.add(cargo.cell(hold, cell / 6, 0, cell % 6, what));
            }
        }
    }

    private static void ship(SoupCargo cargo, List<Integer> seen) {
        for (int what = 0; what < 11; what++) {
            seen.add(cargo.ship(what));
        }
        for (int degree = 0; degree <= 60; degree += 5) {
            seen.add(cargo.arms(degree));
        }
        seen.add(cargo.fault(0));
        seen.add(cargo.fault(1));
        // what follows tells her arms, her limit and the laws once more, by what they do
        cargo.sail(7);
        for (int i = 0; i < 12; i++) {
            seen.add(cargo.hours(i < 6 ? 1 : 9));
            for (int what = 2; what < 10; what++) {
                seen.add(cargo.ship(what));
            }
        }
    }

    /** STATE shows in the hour in which a limit between two rolls is gone beyond. */
    private static void rolls(SoupCargo cargo, List<Integer> seen, int limit) {
        cargo.sail(11);
        for (int day = 0; day < 30; day++) {
            cargo.sky(day, 0, 9);
        }
        cargo.arm(7, limit);
        for (int i = 0; i < 60; i++) {
            cargo.hours(1);
            seen.add(cargo.ship(5));
        }
    }

    private static void tape(SoupCargo cargo, List<Integer> seen, boolean asLaws) {
        seen.add(Scene.feedBlanks(cargo));
        seen.add(asLaws ? cargo.laws() : cargo.code());
        seen.add(cargo.fault(0));
        seen.add(cargo.fault(1));
        for (int which = 0; which < 4; which++) {
            seen.add(cargo.told(which, -1, 0, 0, 0));
            seen.add(cargo.told(which, 3, 3, 0, 0));
        }
        for (int i = 0; i < 12; i++) {
            seen.add(cargo.may(i / 3, i % 3));
        }
    }

    private static void papers(SoupCargo cargo, List<Integer> seen) {
        for (int i = 0; i < 8; i++) {
            for (int hour = 0; hour < 4; hour += 3) {
                seen.add(cargo.span(i, 7 - i, i / 2, hour, 0));
                seen.add(cargo.span(i, 7 - i, i / 2, hour, 1));
            }
        }
        for (int what = 0; what < 3; what++) {
            seen.add(cargo.mean(0, what));
            seen.add(cargo.mean(719, what));
        }
        for (int r = 0; r <= 20; r++) {
            seen.add(cargo.fair(r));
        }
        for (int i = 0; i < 12; i++) {
            seen.add(cargo.may(i / 3, i % 3));
        }
        for (int i = 0; i < 6; i++) {
            seen.add(cargo.let(9 * (i / 2), i % 2));
        }
        // THE PAPER's number, and the last can's
        cargo.end(0);
        Check.code(cargo, "load 0 when said<12; load 1 when said<11; load 2 when can<9; load 3 when age<3;");
        for (int person = 0; person < 4; person++) {
            seen.add(cargo.may(person, 0));
        }
    }

    private static void counts(SoupCargo cargo, List<Integer> seen) {
        for (int what = 0; what < 2; what++) {
            for (int harbour = -1; harbour < 8; harbour++) {
                seen.add(cargo.risk(harbour, -1, -1, what));
            }
            for (int month = 0; month < 12; month++) {
                seen.add(cargo.risk(-1, month, -1, what));
            }
            for (int sort = 0; sort < 3; sort++) {
                seen.add(cargo.risk(-1, -1, sort, what));
            }
        }
        seen.add(cargo.risk(-1, -1, -1, 2));
        cargo.sail(3);
        for (int k = -1; k < 6; k++) {
            seen.add(cargo.reach(k));
        }
        seen.add(cargo.port(2));
        seen.add(cargo.can(0, 0, 0));
        seen.add(cargo.list(0, 0, 0, false));
    }

    private static void sky(SoupCargo cargo, List<Integer> seen) {
        cargo.end(0);
        Check.laws(cargo, "sweat rain;");
        Check.code(cargo, SWELL_BITS);
        cargo.heap(0, 0, 0, 1, 0);
        for (int day = 0; day < 30; day++) {
            seen.add(cargo.told(3, -1, 0, 0, 0));
            for (int person = 0; person < 4; person++) {
                seen.add(cargo.may(person, 0));
            }
            cargo.hours(24);
        }
    }
}
