import java.io.ByteArrayOutputStream;
import java.math.BigInteger;
import java.nio.charset.StandardCharsets;
import java.util.ArrayList;
import java.util.Arrays;
import java.util.HashMap;
import java.util.List;
import java.util.Map;
import java.util.stream.IntStream;

/** The document told a second time, with columns as lists, so that the class can be held against it. */
final class Model {
    static final int NONE = -1;
    static final int BEYOND = -1000000;

    private static final class Lump {
        private final int ore;
        private int water;
        private int shaken;
        private boolean soup;

        Lump(int ore, int water) {
            this.ore = ore;
            this.water = water;
        }

        Lump copy() {
            Lump lump = new Lump(ore, water);
            lump.shaken = shaken;
            lump.soup = soup;
            return lump;
        }

        int heft() {
            return 10 * ore + water;
        }
    }

    private record Can(int x, int y, int z, int wet, int hour) {
    }

    private record Listed(int harbour, int month, int sort, boolean lost) {
    }

    /** All that an hour at sea may change. */
    private static final class Sea {
        private final List<List<List<Lump>>> holds = new ArrayList<>();
        private boolean atSea;
        private int state;
        private int lean;
        private int gone = NONE;
        private int well;

        Sea() {
            for (int hold = 0; hold < 4; hold++) {
                holds.add(columns(6));
            }
        }

        Sea copy() {
            Sea sea = new Sea();
            for (int hold = 0; hold < 4; hold++) {
                for (int column = 0; column < 6; column++) {
                    for (Lump lump : holds.get(hold).get(column)) {
                        sea.holds.get(hold).get(column).add(lump.copy());
                    }
                }
            }
            sea.atSea = atSea;
            sea.state = state;
            sea.lean = lean;
            sea.gone = gone;
            return sea;
        }

        List<Lump> lumps() {
            List<Lump> all = new ArrayList<>();
            holds.forEach(hold -> hold.forEach(all::addAll));
            return all;
        }

        int moment() {
            int[] arms = {-5, -3, -1, 1, 3, 5};
            int moment = 0;
            for (List<List<Lump>> hold : holds) {
                for (int column = 0; column < 6; column++) {
                    moment += arms[column] * hold.get(column).stream().mapToInt(Lump::heft).sum();
                }
            }
            return moment;
        }

        int weight() {
            return 2000 + lumps().stream().mapToInt(Lump::heft).sum();
        }
    }

    private int now;
    private int sort;
    private final int[] rain = new int[30];
    private final int[] swell = new int[30];
    private final List<List<Lump>> heap = columns(64);
    private final Sea sea = new Sea();
    private int out;
    private final int[] arms = {0, 20, 40, 50, 40, 20, 0};
    private int limit = 60;
    private byte[] tape = new byte[0];
    private TextModel laws = new TextModel(true, "");
    private TextModel code = new TextModel(false, "");
    private TextModel latest = laws;
    private final List<Can> cans = new ArrayList<>();
    private int stepSize = 3;
    private int said = NONE;
    private final int[][] places = new int[8][];
    private final List<Integer> ports = new ArrayList<>();
    private final List<Listed> listed = new ArrayList<>();

    private static List<List<Lump>> columns(int count) {
        List<List<Lump>> columns = new ArrayList<>();
        for (int i = 0; i < count; i++) {
            columns.add(new ArrayList<>());
        }
        return columns;
    }

    private static boolean in(int v, int least, int most) {
        return v >= least && v <= most;
    }

    private static boolean isHeapCell(int x, int y, int z) {
        return in(x, 0, 7) && in(y, 0, 7) && in(z, 0, 3);
    }

    boolean sort(int v) {
        if (in(v, 0, 2)) {
            sort = v;
            return true;
        }
        return false;
    }

    boolean sky(int day, int r, int s) {
        if (!in(day, 0, 29) || !in(r, 0, 9) || !in(s, 0, 9)) {
            return false;
        }
        rain[day] = r;
        swell[day] = s;
        return true;
    }

    boolean heap(int x, int y, int z, int ore, int water) {
        if (!isHeapCell(x, y, z) || !in(ore, 0, 99) || !in(water, 0, 9999)) {
            return false;
        }
        List<Lump> column = heap.get(8 * x + y);
        if (ore == 0) {
            if (water != 0 || z < column.size() - 1) {
                return false;
            }
            if (z == column.size() - 1) {
                column.remove(z);
            }
            return true;
        }
        if (z > column.size()) {
            return false;
        }
        if (z == column.size()) {
            column.add(new Lump(ore, water));
        } else {
            column.set(z, new Lump(ore, water));
        }
        return true;
    }

    private boolean isCell(int hold, int x, int y, int z) {
        return hold == NONE ? isHeapCell(x, y, z) : in(hold, 0, 3) && in(x, 0, 5) && in(z, 0, 5);
    }

    private Lump lump(int hold, int x, int y, int z) {
        List<Lump> column = hold == NONE ? heap.get(8 * x + y) : sea.holds.get(hold).get(x);
        return z < column.size() ? column.get(z) : null;
    }

    int cell(int hold, int x, int y, int z, int what) {
        if (!isCell(hold, x, y, z) || !in(what, 0, 4)) {
            return NONE;
        }
        Lump lump = lump(hold, x, y, z);
        if (lump == null) {
            return 0;
        }
        return new int[] {lump.ore, lump.water, lump.water / lump.ore, lump.shaken, lump.soup ? 1 : 0}[what];
    }

    int feed(int a, int b, int c, int d, int e) {
        if (tape.length > 580) {
            return NONE;
        }
        ByteArrayOutputStream bytes = new ByteArrayOutputStream();
        bytes.writeBytes(tape);
        for (int number : new int[] {a, b, c, d, e}) {
            for (int i = 3; i >= 0; i--) {
                bytes.write(number >> (8 * i));
            }
        }
        tape = bytes.toByteArray();
        return tape.length;
    }

    boolean end(int n) {
        if (n < 0 || n > tape.length) {
            return false;
        }
        tape = Arrays.copyOf(tape, n);
        return true;
    }

    private int read(boolean asLaws) {
        latest = new TextModel(asLaws, new String(tape, StandardCharsets.ISO_8859_1));
        tape = new byte[0];
        if (latest.fault != 0) {
            return NONE;
        }
        if (asLaws) {
            laws = latest;
        } else {
            code = latest;
        }
        return latest.lines.size();
    }

    int laws() {
        return read(true);
    }

    int code() {
        return read(false);
    }

    int fault(int what) {
        return what == 0 ? latest.fault : what == 1 ? latest.place : NONE;
    }

    private int law(int which, Lump lump, int layer, boolean lit, int hour) {
        Map<String, Integer> env = new HashMap<>();
        env.put("wet", lump.water / lump.ore);
        env.put("water", lump.water);
        env.put("ore", lump.ore);
        env.put("layer", layer);
        env.put("sort", sort);
        env.put("rain", rain[hour / 24]);
        env.put("clock", hour % 24);
        env.put("shaken", lump.shaken);
        env.put("lit", lit ? 1 : 0);
        return laws.law(TextModel.LAW_HEADS.get(which), env);
    }

    private boolean isLit(int x, int y, int z, int hour) {
        boolean top = z == heap.get(8 * x + y).size() - 1;
        int clock = hour % 24;
        return top && (x <= 3 ? clock >= 6 && clock <= 11 : clock >= 12 && clock <= 17);
    }

    private static int hold(int v, int most) {
        return v < 0 ? 0 : v > most ? most : v;
    }

    /** What each gives is fixed before any gets; answers what runs out below or over. */
    private static int sink(List<Lump> column, int[] given) {
        int lost = 0;
        for (int z = 0; z < column.size(); z++) {
            column.get(z).water -= given[z];
        }
        for (int z = 0; z < column.size(); z++) {
            column.get(z).water += z + 1 < column.size() ? given[z + 1] : 0;
            lost += z == 0 ? given[0] : 0;
        }
        for (Lump lump : column) {
            lost += Math.max(0, lump.water - 9999);
            lump.water = Math.min(lump.water, 9999);
        }
        return lost;
    }

    private void heapHour() {
        for (int x = 0; x < 8; x++) {
            for (int y = 0; y < 8; y++) {
                List<Lump> column = heap.get(8 * x + y);
                if (column.isEmpty()) {
                    continue;
                }
                Lump top = column.get(column.size() - 1);
                top.water += rain[now / 24];
                out += Math.max(0, top.water - 9999);
                top.water = Math.min(top.water, 9999);
                int z = column.size() - 1;
                top.water -= hold(law(1, top, z, isLit(x, y, z, now), now), top.water);
                int[] given = new int[column.size()];
                for (z = 0; z < given.length; z++) {
                    given[z] = hold(law(0, column.get(z), z, isLit(x, y, z, now), now), column.get(z).water);
                }
                out += sink(column, given);
            }
        }
    }

    private void seaHour(Sea at, int hour) {
        if (!at.atSea || at.gone != NONE) {
            return;
        }
        int seas = swell[hour / 24];
        at.lumps().forEach(lump -> lump.shaken = Math.min(9999, lump.shaken + seas));
        for (List<List<Lump>> hold : at.holds) {
            for (List<Lump> column : hold) {
                int[] given = IntStream.range(0, column.size())
                    .map(z -> hold(law(0, column.get(z), z, false, hour), column.get(z).water)).toArray();
                at.well += sink(column, given);
            }
        }
        for (List<List<Lump>> hold : at.holds) {
            for (List<Lump> column : hold) {
                for (int z = 0; z < column.size(); z++) {
                    column.get(z).soup = law(2, column.get(z), z, false, hour) > 0;
                }
            }
        }
        lean(at);
        if (Math.abs(at.lean) == 61) {
            at.gone = hour;
            return;
        }
        BigInteger next = BigInteger.valueOf(at.state).multiply(BigInteger.valueOf(1664525))
            .add(BigInteger.valueOf(1013904223));
        at.state = next.intValue();
        int draw = next.testBit(31) ? 2 : 0;
        draw += next.testBit(30) ? 1 : 0;
        if (Math.abs(at.lean) + seas * draw > limit) {
            at.gone = hour;
            return;
        }
        flow(at);
    }

    private void lean(Sea at) {
        long moment = at.moment();
        int side = moment < 0 ? -1 : 1;
        for (int degree = 0; degree <= 60; degree++) {
            if (arms(degree) * (long) at.weight() >= 10 * 20 * Math.abs(moment)) {
                at.lean = side * degree;
                return;
            }
        }
        at.lean = side * 61;
    }

    private static void flow(Sea at) {
        int[] order = at.lean > 0 ? new int[] {5, 4, 3, 2, 1, 0} : new int[] {0, 1, 2, 3, 4, 5};
        if (at.lean == 0) {
            return;
        }
        for (List<List<Lump>> hold : at.holds) {
            for (int i = 1; i < 6; i++) {
                List<Lump> from = hold.get(order[i]);
                List<Lump> to = hold.get(order[i - 1]);
                if (from.isEmpty() || !from.get(from.size() - 1).soup || to.size() == 6) {
                    continue;
                }
                boolean lower = to.size() < from.size();
                boolean level = to.size() == from.size();
                if (lower || level && Math.abs(at.lean) >= 10) {
                    to.add(from.remove(from.size() - 1));
                }
            }
        }
    }

    int hours(int n) {
        if (!in(n, 1, 48) || now + n > 719) {
            return NONE;
        }
        for (int i = 0; i < n; i++) {
            heapHour();
            seaHour(sea, now);
            now++;
        }
        return now;
    }

    boolean load(int x, int y, int hold, int column) {
        if (!isHeapCell(x, y, 0) || !isCell(Math.max(hold, NONE), column, 0, 0) || hold < 0 || sea.atSea) {
            return false;
        }
        List<Lump> from = heap.get(8 * x + y);
        List<Lump> to = sea.holds.get(hold).get(column);
        if (from.isEmpty() || to.size() == 6) {
            return false;
        }
        to.add(from.remove(from.size() - 1));
        return true;
    }

    boolean arm(int k, int v) {
        if (!in(k, 0, 7) || !in(v, 0, k == 7 ? 90 : 99)) {
            return false;
        }
        if (k == 7) {
            limit = v;
        } else {
            arms[k] = v;
        }
        return true;
    }

    boolean sail(int state) {
        if (sea.atSea) {
            return false;
        }
        sea.atSea = true;
        sea.state = state;
        return true;
    }

    int ship(int what) {
        switch (what) {
            case 0: return now;
            case 1: return sea.atSea ? 1 : 0;
            case 2: return sea.moment();
            case 3: return sea.weight();
            case 4: return sea.lean;
            case 5: return sea.gone;
            case 6: return sea.well;
            case 7: return out;
            case 8: return sea.lumps().size();
            case 9: return (int) sea.lumps().stream().filter(lump -> lump.soup).count();
            case 10: return sort;
            default: return BEYOND;
        }
    }

    int arms(int degree) {
        if (!in(degree, 0, 60)) {
            return NONE;
        }
        int k = degree / 10;
        int part = degree % 10;
        return part == 0 ? 10 * arms[k] : (10 - part) * arms[k] + part * arms[k + 1];
    }

    int told(int which, int hold, int x, int y, int z) {
        if (!in(which, 0, 3) || !isCell(hold, x, y, z)) {
            return BEYOND;
        }
        Lump lump = lump(hold, x, y, z);
        return lump == null ? 0 : law(which, lump, z, hold == NONE && isLit(x, y, z, now), now);
    }

    private static final int FAR = 1000000;
    private static final int[] WORST = worsts();
    private static final int[][] LEAST_WORST = leastWorsts();

    private static int[] worsts() {
        int[] arms = {5, 3, 1, -1, -3, -5};
        int[] worsts = new int[37];
        for (int n = 1; n <= 36; n++) {
            worsts[n] = worsts[n - 1] + arms[(n - 1) / 6];
        }
        return worsts;
    }

    /** By how many holds are left and how many cells. */
    private static int[][] leastWorsts() {
        int[][] least = new int[5][145];
        for (int holds = 0; holds <= 4; holds++) {
            for (int cells = 0; cells <= 144; cells++) {
                least[holds][cells] = holds == 0 && cells == 0 ? 0 : FAR;
                for (int n = 0; holds > 0 && n <= Math.min(36, cells); n++) {
                    int tried = WORST[n] + least[holds - 1][cells - n];
                    least[holds][cells] = Math.min(least[holds][cells], tried);
                }
            }
        }
        return least;
    }

    int split(int cells, int what) {
        if (!in(cells, 0, 144) || !in(what, 0, 4)) {
            return NONE;
        }
        int due = LEAST_WORST[4][cells];
        if (what == 0) {
            return due;
        }
        int left = cells;
        int n = 0;
        for (int hold = 0; hold < what; hold++) {
            n = 0;
            while (WORST[n] + LEAST_WORST[3 - hold][left - n] != due) {
                n++;
            }
            left -= n;
            due -= WORST[n];
        }
        return n;
    }

    int can(int x, int y, int z) {
        if (!isHeapCell(x, y, z) || lump(NONE, x, y, z) == null || cans.size() == 60) {
            return NONE;
        }
        cans.add(new Can(x, y, z, cell(NONE, x, y, z, 2), now));
        return cans.size() - 1;
    }

    boolean step(int v) {
        stepSize = in(v, 0, 20) ? v : stepSize;
        return in(v, 0, 20);
    }

    private static int distance(int x, int y, int z, int x2, int y2, int z2) {
        return Math.abs(x - x2) + Math.abs(y - y2) + Math.abs(z - z2);
    }

    int span(int x, int y, int z, int hour, int what) {
        if (!isHeapCell(x, y, z) || !in(hour, 0, 719) || !in(what, 0, 1)) {
            return NONE;
        }
        IntStream ends = cans.stream().filter(can -> can.hour() <= hour).mapToInt(can ->
            can.wet() + (what == 0 ? -1 : 1) * stepSize * distance(x, y, z, can.x(), can.y(), can.z()));
        return hold(what == 0 ? ends.max().orElse(0) : ends.min().orElse(99), 99);
    }

    int mean(int hour, int what) {
        if (!in(hour, 0, 719) || !in(what, 0, 2)) {
            return NONE;
        }
        if (what == 2) {
            int least = mean(hour, 0);
            return least == NONE || said == NONE ? NONE : in(said, least, mean(hour, 1)) ? 1 : 0;
        }
        int sum = 0;
        int number = 0;
        for (int x = 0; x < 8; x++) {
            for (int y = 0; y < 8; y++) {
                for (int z = 0; z < heap.get(8 * x + y).size(); z++) {
                    sum += span(x, y, z, hour, what);
                    number++;
                }
            }
        }
        return number == 0 ? NONE : sum / number;
    }

    boolean paper(int v) {
        said = in(v, NONE, 99) ? v : said;
        return in(v, NONE, 99);
    }

    boolean place(int k, int x, int y, int z) {
        if (!in(k, 0, 7) || !isHeapCell(x, y, z)) {
            return false;
        }
        places[k] = new int[] {x, y, z};
        return true;
    }

    private boolean isNear(int set, int x, int y, int z, int r) {
        return IntStream.range(0, 8).anyMatch(k -> (set >> k & 1) == 1
            && distance(x, y, z, places[k][0], places[k][1], places[k][2]) <= r);
    }

    private boolean isFair(int set, int r) {
        if (IntStream.range(0, 8).anyMatch(k -> (set >> k & 1) == 1 && places[k] == null)) {
            return false;
        }
        for (int column = 0; column < 64; column++) {
            for (int z = 0; z < heap.get(column).size(); z++) {
                if (!isNear(set, column / 8, column % 8, z, r)) {
                    return false;
                }
            }
        }
        return true;
    }

    int fair(int r) {
        if (!in(r, 0, 20)) {
            return NONE;
        }
        for (int size = 0; size <= 8; size++) {
            for (int set = 0; set < 256; set++) {
                if (Integer.bitCount(set) == size && isFair(set, r)) {
                    return set;
                }
            }
        }
        return NONE;
    }

    int may(int person, int what) {
        if (!in(person, 0, 3) || !in(what, 0, 2)) {
            return NONE;
        }
        Can last = cans.isEmpty() ? null : cans.get(cans.size() - 1);
        Map<String, Integer> env = new HashMap<>();
        env.put("said", Math.max(0, said));
        env.put("can", last == null ? 0 : last.wet());
        env.put("age", last == null ? 99 : Math.min(99, now - last.hour()));
        env.put("rain", rain[now / 24]);
        env.put("day", now / 24);
        env.put("loaded", sea.lumps().size());
        env.put("swell", swell[now / 24]);
        env.put("port", sea.atSea ? 0 : 1);
        return code.some(TextModel.CODE_HEADS.get(what), person, env) ? 1 : 0;
    }

    int let(int w, int what) {
        if (!in(w, 0, 20) || !in(what, 0, 1)) {
            return NONE;
        }
        int count = 0;
        Map<String, Integer> env = new HashMap<>(Map.of("day", 0, "loaded", 0, "swell", 0, "port", 1));
        for (int said = 0; said <= 20; said++) {
            for (int can = w + 1; can <= 20; can++) {
                for (int age = 0; age <= 9; age++) {
                    for (int rain = 0; rain <= 9; rain++) {
                        env.put("said", said);
                        env.put("can", can);
                        env.put("age", age);
                        env.put("rain", rain);
                        if (code.some("load", -1, env) && !code.some("stop", -1, env)) {
                            if (what == 1) {
                                return 1000000 * said + 10000 * can + 100 * age + rain;
                            }
                            count++;
                        }
                    }
                }
            }
        }
        return what == 0 ? count : NONE;
    }

    int port(int hours) {
        if (!in(hours, 1, 400) || ports.size() == 6) {
            return NONE;
        }
        ports.add(hours);
        return ports.size() - 1;
    }

    int reach(int k) {
        if (!in(k, NONE, ports.size() - 1) || !sea.atSea || sea.gone != NONE) {
            return NONE;
        }
        if (k == NONE) {
            int best = NONE;
            for (int i = 0; i < ports.size(); i++) {
                if (reach(i) == 1 && (best == NONE || ports.get(i) < ports.get(best))) {
                    best = i;
                }
            }
            return best;
        }
        if (now + ports.get(k) > 719) {
            return NONE;
        }
        Sea tried = sea.copy();
        for (int hour = now; hour < now + ports.get(k); hour++) {
            seaHour(tried, hour);
        }
        return tried.gone == NONE ? 1 : 0;
    }

    int list(int harbour, int month, int sort, boolean lost) {
        if (!in(harbour, 0, 7) || !in(month, 0, 11) || !in(sort, 0, 2) || listed.size() == 200) {
            return NONE;
        }
        listed.add(new Listed(harbour, month, sort, lost));
        return listed.size();
    }

    int risk(int harbour, int month, int sort, int what) {
        if (what == 2) {
            return worstHarbour();
        }
        if (!in(harbour, NONE, 7) || !in(month, NONE, 11) || !in(sort, NONE, 2) || !in(what, 0, 1)) {
            return NONE;
        }
        int count = (int) listed.stream().filter(one -> (harbour == NONE || one.harbour() == harbour)
            && (month == NONE || one.month() == month) && (sort == NONE || one.sort() == sort)
            && (what == 1 || one.lost())).count();
        return what == 0 ? count + 1 : count + 2;
    }

    private int worstHarbour() {
        int worst = NONE;
        for (int harbour = 7; harbour >= 0; harbour--) {
            int of = harbour;
            if (listed.stream().noneMatch(one -> one.harbour() == of)) {
                continue;
            }
            if (worst == NONE || risk(harbour, NONE, NONE, 0) * risk(worst, NONE, NONE, 1)
                >= risk(worst, NONE, NONE, 0) * risk(harbour, NONE, NONE, 1)) {
                worst = harbour;
            }
        }
        return worst;
    }
}
