import java.nio.charset.StandardCharsets;
import java.util.Random;

/** Runs of 512 calls by chance (the same each time), each answer held against the model's. */
public final class ModelTest {
    private static final int RUNS = 400;
    /** What later calls answer is free. */
    private static final int CALLS = 512;
    /** The most that one round of calls asks: a text that is fed, read and asked for its fault. */
    private static final int ROUND = 40;
    /** What is left for a look at cells and ship in the end. */
    private static final int LOOK = 80;

    private final Check check;
    private final Random random;
    private final SoupCargo cargo = new SoupCargo();
    private final Model model = new Model();
    private final int seed;
    private final int lets;
    private int asked;

    private ModelTest(Check check, int seed) {
        this.check = check;
        this.seed = seed;
        this.random = new Random(seed);
        // the model is slow at them, and the seeds that have them are enough
        this.lets = seed % 20 == 0 ? 4 : 0;
    }

    public static void main(String[] args) {
        Check check = new Check("ModelTest");
        for (int seed = 0; seed < RUNS && check.wrongs() == 0; seed++) {
            new ModelTest(check, seed).run();
        }
        check.close();
    }

    private void run() {
        buildHeap();
        text(true, false);
        text(false, false);
        for (int i = 0; i < random.nextInt(100); i++) {
            load();
        }
        boolean sails = random.nextInt(4) > 0;
        int sailsAt = asked + random.nextInt(200);
        int letsLeft = lets;
        while (asked < CALLS - LOOK - ROUND && check.wrongs() == 0) {
            if (sails && asked >= sailsAt) {
                sails = false;
                int state = random.nextInt();
                due("sail", cargo.sail(state), model.sail(state));
            }
            if (letsLeft > 0 && random.nextInt(40) == 0) {
                letsLeft--;
                int w = upTo(20);
                due("let 0", cargo.let(w, 0), model.let(w, 0));
                due("let 1", cargo.let(w, 1), model.let(w, 1));
            }
            call();
        }
        look();
    }

    private void due(String call, int got, int want) {
        asked++;
        check.due("seed " + seed + " " + call, got, want);
    }

    private void due(String call, boolean got, boolean want) {
        due(call, got ? 1 : 0, want ? 1 : 0);
    }

    /** 0 .. most, and sometimes a little or far beyond. */
    private int upTo(int most) {
        switch (random.nextInt(60)) {
            case 0: return -1;
            case 1: return most + 1;
            case 2: return random.nextInt();
            default: return random.nextInt(most + 1);
        }
    }

    private int noneOrUpTo(int most) {
        return random.nextInt(3) == 0 ? -1 : upTo(most);
    }

    private void buildHeap() {
        int full = random.nextInt(5);
        for (int x = 0; x < 8; x++) {
            for (int y = 0; y < 8; y++) {
                int layers = random.nextInt(4) < full ? random.nextInt(5) : 0;
                for (int z = 0; z < layers; z++) {
                    heapCell(x, y, z);
                }
            }
        }
    }

    private void heapCell(int x, int y, int z) {
        int ore = random.nextInt(8) == 0 ? 0 : upTo(random.nextBoolean() ? 99 : 20);
        int water = ore == 0 ? 0 : upTo(random.nextInt(3) == 0 ? 9999 : 300);
        due("heap", cargo.heap(x, y, z, ore, water), model.heap(x, y, z, ore, water));
    }

    private void text(boolean laws, boolean maySpoil) {
        TextMaker maker = new TextMaker(random, laws);
        int lines = random.nextInt(6) == 0 ? 20 : 6;
        String text = maySpoil && random.nextInt(3) > 0 ? maker.spoilt(lines) : maker.text(lines);
        byte[] bytes = text.getBytes(StandardCharsets.ISO_8859_1);
        for (int from = 0; from < bytes.length; from += 20) {
            int[] five = Check.fiveFrom(bytes, from);
            due("feed", cargo.feed(five[0], five[1], five[2], five[3], five[4]),
                model.feed(five[0], five[1], five[2], five[3], five[4]));
        }
        due("end", cargo.end(bytes.length), model.end(bytes.length));
        if (laws) {
            due("laws of '" + text + "'", cargo.laws(), model.laws());
        } else {
            due("code of '" + text + "'", cargo.code(), model.code());
        }
        due("fault(0) of '" + text + "'", cargo.fault(0), model.fault(0));
        due("fault(1) of '" + text + "'", cargo.fault(1), model.fault(1));
    }

    private void load() {
        int x = upTo(7);
        int y = upTo(7);
        int hold = upTo(3);
        int column = random.nextBoolean() ? upTo(5) : 3 + random.nextInt(3);
        due("load", cargo.load(x, y, hold, column), model.load(x, y, hold, column));
    }

    private void call() {
        int a = random.nextInt(34);
        if (a < 24) {
            ask(a);
        } else {
            change(a);
        }
    }

    private void ask(int a) {
        int hold = noneOrUpTo(3);
        int x = hold == -1 ? upTo(7) : upTo(5);
        int y = upTo(7);
        int z = hold == -1 ? upTo(3) : upTo(5);
        int hour = upTo(719);
        int what = upTo(4);
        switch (a) {
            case 0: case 1: case 2:
                due("cell", cargo.cell(hold, x, y, z, what), model.cell(hold, x, y, z, what));
                break;
            case 3: case 4: case 5: case 6: case 7:
                what = upTo(10);
                due("ship " + what, cargo.ship(what), model.ship(what));
                break;
            case 8:
                what = upTo(60);
                due("arms " + what, cargo.arms(what), model.arms(what));
                break;
            case 9: case 10: case 11: case 12:
                what = upTo(3);
                due("told " + what, cargo.told(what, hold, x, y, z), model.told(what, hold, x, y, z));
                break;
            case 13:
                int cells = upTo(144);
                due("split " + cells, cargo.split(cells, what), model.split(cells, what));
                break;
            case 14: case 15:
                what = upTo(1);
                z = upTo(3);
                x = upTo(7);
                due("span", cargo.span(x, y, z, hour, what), model.span(x, y, z, hour, what));
                break;
            case 16:
                what = upTo(2);
                due("mean " + what, cargo.mean(hour, what), model.mean(hour, what));
                break;
            case 17:
                int r = upTo(20);
                due("fair " + r, cargo.fair(r), model.fair(r));
                break;
            case 18: case 19:
                int person = upTo(3);
                what = upTo(2);
                due("may", cargo.may(person, what), model.may(person, what));
                break;
            case 20:
                int k = noneOrUpTo(5);
                due("reach " + k, cargo.reach(k), model.reach(k));
                break;
            case 21: case 22:
                int harbour = noneOrUpTo(7);
                int month = noneOrUpTo(11);
                int sort = noneOrUpTo(2);
                what = upTo(2);
                due("risk " + what, cargo.risk(harbour, month, sort, what), model.risk(harbour, month, sort, what));
                break;
            default:
                due("fault " + what, cargo.fault(what), model.fault(what));
                break;
        }
    }

    private void change(int a) {
        int x = upTo(7);
        int y = upTo(7);
        int z = upTo(3);
        int v;
        switch (a) {
            case 24:
                v = upTo(2);
                due("sort", cargo.sort(v), model.sort(v));
                v = random.nextInt(3) == 0 ? upTo(20) : 3;
                due("step", cargo.step(v), model.step(v));
                v = noneOrUpTo(99);
                due("paper", cargo.paper(v), model.paper(v));
                break;
            case 25:
                int day = upTo(29);
                int rain = upTo(9);
                int swell = upTo(9);
                due("sky", cargo.sky(day, rain, swell), model.sky(day, rain, swell));
                break;
            case 26:
                heapCell(x, y, z);
                break;
            case 27:
                text(random.nextBoolean(), true);
                break;
            case 28:
                v = random.nextInt(5) == 0 ? upTo(48) : upTo(3);
                due("hours " + v, cargo.hours(v), model.hours(v));
                break;
            case 29:
                load();
                break;
            case 30:
                int k = upTo(7);
                v = k == 7 ? upTo(90) : upTo(99);
                due("arm", cargo.arm(k, v), model.arm(k, v));
                break;
            case 31:
                due("can", cargo.can(x, y, z), model.can(x, y, z));
                break;
            case 32:
                int place = upTo(7);
                due("place", cargo.place(place, x, y, z), model.place(place, x, y, z));
                v = random.nextBoolean() ? upTo(400) : upTo(20);
                due("port", cargo.port(v), model.port(v));
                break;
            default:
                int month = upTo(11);
                int sort = upTo(2);
                boolean lost = random.nextBoolean();
                due("list", cargo.list(x, month, sort, lost), model.list(x, month, sort, lost));
                break;
        }
    }

    private void look() {
        for (int what = 0; what < 12; what++) {
            due("ship at the end " + what, cargo.ship(what), model.ship(what));
        }
        while (asked < CALLS) {
            int hold = random.nextInt(5) - 1;
            int x = random.nextInt(hold < 0 ? 8 : 6);
            int y = random.nextInt(8);
            int z = random.nextInt(hold < 0 ? 3 : 4);
            int what = random.nextInt(5);
            due("cell at the end", cargo.cell(hold, x, y, z, what), model.cell(hold, x, y, z, what));
        }
    }
}
