/** Ore that turns to soup: a heap, a ship, the papers and a list of ships. The promises stand in DOC.md. */
public final class SoupCargo {
    public static final int NONE = -1;

    private static final int BEYOND = NONE - 999999;
    private static final int LAST_HOUR = 719;
    private static final int DAY_HOURS = 24;
    private static final int SORTS = 3;
    private static final int SIDE = 8;
    private static final int HEAP_LAYERS = 4;
    private static final int HOLDS = 4;
    private static final int HOLD_COLUMNS = 6;
    private static final int HOLD_LAYERS = 6;
    private static final int HOLD_CELLS = 36;
    private static final int ORE_MOST = 99;
    private static final int WATER_MOST = 9999;
    private static final int WET_MOST = 99;
    private static final int TAPE_MOST = 600;
    private static final int LINES_MOST = 16;
    private static final int PERSONS = 4;
    private static final int PORTS_MOST = 6;

    private static final int LAW_DOWN = 0;
    private static final int LAW_DRY = 1;
    private static final int LAW_SOUP = 2;
    private static final int LAW_KINDS = 4;
    private static final int MAY_LOAD = 0;
    private static final int MAY_STOP = 1;
    private static final int CODE_KINDS = 3;

    private final Sky weather = new Sky();
    private final Stacks pile = new Stacks(SIDE * SIDE, HEAP_LAYERS, true);
    private final Ship vessel = new Ship();
    private final Ship trial = new Ship();
    private final Reader reader = new Reader();
    private final Laws rules = new Laws();
    private final Code permits = new Code();
    private final Cans samples = new Cans();
    private final Places spots = new Places();
    private final Ships register = new Ships();
    private final int[] portHours = new int[PORTS_MOST];
    private int portCount;
    private int now;
    private int said = NONE;

    public SoupCargo() {
    }

    public boolean sort(int v) {
        if (!within(v, SORTS)) {
            return false;
        }
        rules.oreSort = v;
        return true;
    }

    public boolean sky(int day, int rain, int swell) {
        return weather.tell(day, rain, swell);
    }

    public boolean heap(int x, int y, int z, int ore, int water) {
        int at = heapCell(x, y, z);
        if (at == NONE || !within(ore, ORE_MOST + 1) || !within(water, WATER_MOST + 1)) {
            return false;
        }
        int height = pile.height(at / HEAP_LAYERS);
        if (ore > 0 ? z > height : water > 0 || z + 1 < height) {
            return false;
        }
        pile.ore[at] = ore;
        pile.water[at] = water;
        return true;
    }

    public int cell(int hold, int x, int y, int z, int what) {
        Stacks stacks = stacksOf(hold);
        int at = cellOf(hold, x, y, z);
        if (at == NONE) {
            return NONE;
        }
        switch (what) {
            case 0:
                return stacks.ore[at];
            case 1:
                return stacks.water[at];
            case 2:
                return stacks.wetAt(at);
            case 3:
                return stacks.shaken[at];
            case 4:
                return stacks.soup[at];
            default:
                return NONE;
        }
    }

    public int feed(int a, int b, int c, int d, int e) {
        if (!reader.hasRoom(20)) {
            return NONE;
        }
        reader.addBytes(a);
        reader.addBytes(b);
        reader.addBytes(c);
        reader.addBytes(d);
        return reader.addBytes(e);
    }

    public boolean end(int n) {
        return reader.cutTo(n);
    }

    public int laws() {
        if (!reader.readTape(true)) {
            return NONE;
        }
        rules.words = reader.exchange(rules.words);
        return rules.words.lines;
    }

    public int code() {
        if (!reader.readTape(false)) {
            return NONE;
        }
        permits.words = reader.exchange(permits.words);
        permits.waysKnown = false;
        return permits.words.lines;
    }

    public int fault(int what) {
        if (what == 0) {
            return reader.faultKind;
        }
        return what == 1 ? reader.faultPlace : NONE;
    }

    public int hours(int n) {
        if (n < 1 || n > 48 || now + n > LAST_HOUR) {
            return NONE;
        }
        for (int i = 0; i < n; i++) {
            int rain = weather.rainAt(now);
            rules.setTime(rain, now % DAY_HOURS);
            pile.rainAndDry(rules, rain);
            pile.sinkWater(rules);
            vessel.passHour(rules, weather.swellAt(now), now);
            now++;
        }
        return now;
    }

    public boolean load(int x, int y, int hold, int column) {
        int from = heapCell(x, y, 0);
        int to = holdCell(hold, column, 0);
        if (from == NONE || to == NONE || vessel.atSea) {
            return false;
        }
        return pile.moveTop(from / HEAP_LAYERS, vessel.holds, to / HOLD_LAYERS);
    }

    public boolean arm(int k, int v) {
        return vessel.tellArm(k, v);
    }

    public boolean sail(int state) {
        if (vessel.atSea) {
            return false;
        }
        vessel.atSea = true;
        vessel.state = state;
        return true;
    }

    public int ship(int what) {
        switch (what) {
            case 0:
                return now;
            case 1:
                return vessel.atSea ? 1 : 0;
            case 2:
                return vessel.moment();
            case 3:
                return vessel.weight();
            case 4:
                return vessel.lean;
            case 5:
                return vessel.goneHour;
            case 6:
                return vessel.holds.lost;
            case 7:
                return pile.lost;
            case 8:
                return vessel.holds.cellsWithOre();
            case 9:
                return vessel.holds.cellsOfSoup();
            case 10:
                return rules.oreSort;
            default:
                return BEYOND;
        }
    }

    public int arms(int degree) {
        return within(degree, 61) ? vessel.armTenths(degree) : NONE;
    }

    public int told(int which, int hold, int x, int y, int z) {
        Stacks stacks = stacksOf(hold);
        int at = cellOf(hold, x, y, z);
        if (at == NONE || !within(which, LAW_KINDS)) {
            return BEYOND;
        }
        rules.setTime(weather.rainAt(now), now % DAY_HOURS);
        return stacks.lawOf(rules, which, at);
    }

    public int split(int cells, int what) {
        if (!within(cells, HOLDS * HOLD_CELLS + 1) || !within(what, HOLDS + 1)) {
            return NONE;
        }
        // no cell's arm is above 5, so every way comes to less than this
        int least = 5 * cells + 1;
        int ways = 0;
        for (int first = 0; first <= HOLD_CELLS; first++) {
            for (int second = 0; second <= HOLD_CELLS; second++) {
                int both = worstOf(first) + worstOf(second);
                int left = cells - first - second;
                int third = Math.max(0, left - HOLD_CELLS);
                for (; third <= left && third <= HOLD_CELLS && both < least; third++) {
                    int worst = both + worstOf(third) + worstOf(left - third);
                    if (worst < least) {
                        least = worst;
                        ways = ((first * 64 + second) * 64 + third) * 64 + left - third;
                    }
                }
            }
        }
        return what == 0 ? least : ways >> (6 * (HOLDS - what)) & 63;
    }

    public int can(int x, int y, int z) {
        int at = heapCell(x, y, z);
        if (at == NONE || pile.ore[at] == 0) {
            return NONE;
        }
        return samples.fill(at, pile.wetAt(at), now);
    }

    public boolean step(int v) {
        if (!within(v, 21)) {
            return false;
        }
        samples.stepSize = v;
        return true;
    }

    public int span(int x, int y, int z, int hour, int what) {
        int at = heapCell(x, y, z);
        if (at == NONE || !within(hour, LAST_HOUR + 1) || !within(what, 2)) {
            return NONE;
        }
        return what == 0 ? samples.least(at, hour) : samples.greatest(at, hour);
    }

    public int mean(int hour, int what) {
        if (!within(hour, LAST_HOUR + 1) || !within(what, 3)) {
            return NONE;
        }
        if (what < 2) {
            return samples.meanEnd(pile, hour, what == 1);
        }
        int least = samples.meanEnd(pile, hour, false);
        if (said == NONE || least == NONE) {
            return NONE;
        }
        return least <= said && said <= samples.meanEnd(pile, hour, true) ? 1 : 0;
    }

    public boolean paper(int v) {
        if (v != NONE && !within(v, WET_MOST + 1)) {
            return false;
        }
        said = v;
        return true;
    }

    public boolean place(int k, int x, int y, int z) {
        int at = heapCell(x, y, z);
        return at != NONE && spots.tell(k, at);
    }

    public int fair(int r) {
        return within(r, 21) ? spots.fewest(pile, r) : NONE;
    }

    public int may(int person, int what) {
        if (!within(person, PERSONS) || !within(what, CODE_KINDS)) {
            return NONE;
        }
        permits.setPapers(said == NONE ? 0 : said, samples.lastWet(), samples.age(now), weather.rainAt(now));
        permits.setVoyage(now / DAY_HOURS, vessel.holds.cellsWithOre(), weather.swellAt(now), vessel.atSea ? 0 : 1);
        return permits.someLine(what, person) ? 1 : 0;
    }

    public int let(int w, int what) {
        if (!within(w, Code.CANS) || !within(what, 2)) {
            return NONE;
        }
        permits.findWays();
        return what == 0 ? permits.waysAbove(w) : permits.firstAbove(w);
    }

    public int port(int hours) {
        if (hours < 1 || hours > 400 || portCount >= PORTS_MOST) {
            return NONE;
        }
        portHours[portCount] = hours;
        portCount++;
        return portCount - 1;
    }

    public int reach(int k) {
        int port = k == NONE ? nearestPort() : k;
        if (!within(port, portCount) || !vessel.atSea || vessel.goneHour != NONE) {
            return NONE;
        }
        int there = now + portHours[port];
        if (there > LAST_HOUR) {
            return NONE;
        }
        boolean reached = staysTill(there);
        if (k == NONE) {
            return reached ? port : NONE;
        }
        return reached ? 1 : 0;
    }

    public int list(int harbour, int month, int sort, boolean lost) {
        return register.add(harbour, month, sort, lost);
    }

    public int risk(int harbour, int month, int sort, int what) {
        if (what == 2) {
            return register.worstHarbour();
        }
        int which = what == 0 || what == 1 ? register.countOf(harbour, month, sort, what == 0) : NONE;
        return which == NONE ? NONE : which + 1 + what;
    }

    private static boolean within(int v, int bound) {
        return v >= 0 && v < bound;
    }

    private static int held(int v, int most) {
        return Math.max(0, Math.min(v, most));
    }

    private static int heapCell(int x, int y, int z) {
        if (!within(x, SIDE) || !within(y, SIDE) || !within(z, HEAP_LAYERS)) {
            return NONE;
        }
        return (x * SIDE + y) * HEAP_LAYERS + z;
    }

    private static int holdCell(int hold, int column, int z) {
        if (!within(hold, HOLDS) || !within(column, HOLD_COLUMNS) || !within(z, HOLD_LAYERS)) {
            return NONE;
        }
        return (hold * HOLD_COLUMNS + column) * HOLD_LAYERS + z;
    }

    private static int cellOf(int hold, int x, int y, int z) {
        return hold == NONE ? heapCell(x, y, z) : holdCell(hold, x, z);
    }

    private Stacks stacksOf(int hold) {
        return hold == NONE ? pile : vessel.holds;
    }

    /** The arm of a hold's column, from port to starboard. */
    private static int columnArm(int column) {
        return 2 * column - 5;
    }

    /** What n cells come to when all of them have run to the starboard side of a hold. */
    private static int worstOf(int n) {
        int full = n / HOLD_LAYERS;
        // full columns have the arms 5, 3, 1, ..: their sum is full * (6 - full)
        return HOLD_LAYERS * full * (HOLD_COLUMNS - full) + n % HOLD_LAYERS * columnArm(HOLD_COLUMNS - 1 - full);
    }

    /** A port farther off is never reached when the nearest one is not, so this is the only one to try. */
    private int nearestPort() {
        int best = NONE;
        for (int i = 0; i < portCount && i < PORTS_MOST; i++) {
            if (best == NONE || portHours[i] < portHours[best]) {
                best = i;
            }
        }
        return best;
    }

    private boolean staysTill(int there) {
        trial.copyFrom(vessel);
        for (int hour = now; hour < there && trial.goneHour == NONE; hour++) {
            rules.setTime(weather.rainAt(hour), hour % DAY_HOURS);
            trial.passHour(rules, weather.swellAt(hour), hour);
        }
        return trial.goneHour == NONE;
    }

    /** Rain and swell by days. */
    private static final class Sky {
        private static final int DAYS = 30;

        private final int[] rains = new int[DAYS];
        private final int[] swells = new int[DAYS];

        boolean tell(int day, int rain, int swell) {
            if (!within(day, DAYS) || !within(rain, 10) || !within(swell, 10)) {
                return false;
            }
            rains[day] = rain;
            swells[day] = swell;
            return true;
        }

        int rainAt(int hour) {
            return within(hour, DAYS * DAY_HOURS) ? rains[hour / DAY_HOURS] : 0;
        }

        int swellAt(int hour) {
            return within(hour, DAYS * DAY_HOURS) ? swells[hour / DAY_HOURS] : 0;
        }
    }

    /** Columns of cells: the heap, or all the holds. */
    private static final class Stacks {
        private final int columns;
        private final int layers;
        private final boolean underSky;
        final int[] ore;
        final int[] water;
        final int[] shaken;
        final int[] soup;
        /** Water that has run out of the lowest layer, or over. */
        int lost;

        Stacks(int columns, int layers, boolean underSky) {
            this.columns = columns;
            this.layers = layers;
            this.underSky = underSky;
            int cells = Math.max(0, columns * layers);
            ore = new int[cells];
            water = new int[cells];
            shaken = new int[cells];
            soup = new int[cells];
        }

        void copyFrom(Stacks other) {
            int cells = Math.min(ore.length, other.ore.length);
            System.arraycopy(other.ore, 0, ore, 0, cells);
            System.arraycopy(other.water, 0, water, 0, cells);
            System.arraycopy(other.shaken, 0, shaken, 0, cells);
            System.arraycopy(other.soup, 0, soup, 0, cells);
            lost = other.lost;
        }

        int wetAt(int cell) {
            return ore[cell] > 0 ? water[cell] / ore[cell] : 0;
        }

        int height(int column) {
            if (!within(column, columns)) {
                return 0;
            }
            for (int layer = layers - 1; layer >= 0; layer--) {
                if (ore[column * layers + layer] > 0) {
                    return layer + 1;
                }
            }
            return 0;
        }

        int cellsWithOre() {
            int count = 0;
            for (int cell = 0; cell < ore.length; cell++) {
                count += ore[cell] > 0 ? 1 : 0;
            }
            return count;
        }

        int cellsOfSoup() {
            int count = 0;
            for (int cell = 0; cell < soup.length; cell++) {
                count += soup[cell];
            }
            return count;
        }

        int lawOf(Laws laws, int which, int cell) {
            if (layers < 1 || ore[cell] == 0) {
                return 0;
            }
            int layer = cell % layers;
            laws.setCell(ore[cell], water[cell], layer, shaken[cell]);
            laws.setLight(underSky && isLit(laws, cell / layers, layer));
            return laws.comesTo(which);
        }

        /** The sun comes to the lower half of x before noon and to the upper half after it. */
        private boolean isLit(Laws laws, int column, int layer) {
            int firstHour = column / SIDE < SIDE / 2 ? 6 : 12;
            return within(laws.clock() - firstHour, 6) && layer + 1 == height(column);
        }

        void rainAndDry(Laws laws, int rain) {
            for (int column = 0; column < columns; column++) {
                int height = height(column);
                if (height > 0) {
                    int top = column * layers + height - 1;
                    pour(top, rain);
                    water[top] -= held(lawOf(laws, LAW_DRY, top), water[top]);
                }
            }
        }

        /** Upwards, so that each cell gives before it gets: that is all at once. */
        void sinkWater(Laws laws) {
            for (int column = 0; column < columns; column++) {
                int height = height(column);
                for (int layer = 0; layer < height; layer++) {
                    int cell = column * layers + layer;
                    int given = held(lawOf(laws, LAW_DOWN, cell), water[cell]);
                    water[cell] -= given;
                    if (layer == 0) {
                        lost += given;
                    } else {
                        pour(cell - 1, given);
                    }
                }
            }
        }

        private void pour(int cell, int amount) {
            int all = water[cell] + amount;
            water[cell] = Math.min(all, WATER_MOST);
            lost += all - water[cell];
        }

        void shake(int swell) {
            for (int cell = 0; cell < ore.length; cell++) {
                if (ore[cell] > 0) {
                    shaken[cell] = Math.min(shaken[cell] + swell, 9999);
                }
            }
        }

        void turnToSoup(Laws laws) {
            for (int cell = 0; cell < ore.length; cell++) {
                soup[cell] = lawOf(laws, LAW_SOUP, cell) > 0 ? 1 : 0;
            }
        }

        boolean topIsSoup(int column) {
            int height = height(column);
            return height > 0 && soup[column * layers + height - 1] == 1;
        }

        /** False, and nothing is moved, if there is no top, or no layer left for it. */
        boolean moveTop(int from, Stacks into, int to) {
            int height = height(from);
            int under = into.height(to);
            if (height == 0 || !within(to, into.columns) || under >= into.layers) {
                return false;
            }
            int source = from * layers + height - 1;
            int target = to * into.layers + under;
            into.ore[target] = ore[source];
            into.water[target] = water[source];
            into.shaken[target] = shaken[source];
            into.soup[target] = soup[source];
            ore[source] = 0;
            water[source] = 0;
            shaken[source] = 0;
            soup[source] = 0;
            return true;
        }
    }

    /** The ship: her holds, how she leans, and whether she is gone. */
    private static final class Ship {
        private static final int FARTHEST = 60;
        private static final int LIMIT_TOLD = 7;

        final Stacks holds = new Stacks(HOLDS * HOLD_COLUMNS, HOLD_LAYERS, false);
        private final int[] righting = {0, 20, 40, 50, 40, 20, 0};
        private int limit = 60;
        boolean atSea;
        int state;
        int lean;
        int goneHour = NONE;

        void copyFrom(Ship other) {
            holds.copyFrom(other.holds);
            System.arraycopy(other.righting, 0, righting, 0, righting.length);
            limit = other.limit;
            atSea = other.atSea;
            state = other.state;
            lean = other.lean;
            goneHour = other.goneHour;
        }

        boolean tellArm(int k, int v) {
            if (k == LIMIT_TOLD && within(v, 91)) {
                limit = v;
                return true;
            }
            if (!within(k, righting.length) || !within(v, 100)) {
                return false;
            }
            righting[k] = v;
            return true;
        }

        int armTenths(int degree) {
            int below = degree / 10;
            if (!within(below, righting.length)) {
                return 0;
            }
            int above = Math.min(below + 1, righting.length - 1);
            return 10 * righting[below] + (righting[above] - righting[below]) * (degree % 10);
        }

        int moment() {
            int sum = 0;
            for (int cell = 0; cell < holds.ore.length; cell++) {
                sum += heft(cell) * columnArm(cell / HOLD_LAYERS % HOLD_COLUMNS);
            }
            return sum;
        }

        int weight() {
            int sum = 2000;
            for (int cell = 0; cell < holds.ore.length; cell++) {
                sum += heft(cell);
            }
            return sum;
        }

        private int heft(int cell) {
            return 10 * holds.ore[cell] + holds.water[cell];
        }

        void passHour(Laws laws, int swell, int hour) {
            if (!atSea || goneHour != NONE) {
                return;
            }
            holds.shake(swell);
            holds.sinkWater(laws);
            holds.turnToSoup(laws);
            lean = leanNow();
            if (Math.abs(lean) > FARTHEST || Math.abs(lean) + roll(swell) > limit) {
                goneHour = hour;
                return;
            }
            flow();
        }

        /** Degrees, below 0 to port; one beyond the farthest if nothing holds her. */
        private int leanNow() {
            int moment = moment();
            long weight = weight();
            long due = 200L * Math.abs(moment);
            int degree = 0;
            while (degree <= FARTHEST && armTenths(degree) * weight < due) {
                degree++;
            }
            return moment < 0 ? -degree : degree;
        }

        private int roll(int swell) {
            state = 1664525 * state + 1013904223;
            return swell * (state >>> 30);
        }

        private void flow() {
            if (lean == 0) {
                return;
            }
            int toLow = lean > 0 ? 1 : -1;
            int lowest = lean > 0 ? HOLD_COLUMNS - 1 : 0;
            for (int hold = 0; hold < HOLDS; hold++) {
                for (int n = 1; n < HOLD_COLUMNS; n++) {
                    int column = hold * HOLD_COLUMNS + lowest - n * toLow;
                    flowOver(column, column + toLow);
                }
            }
        }

        private void flowOver(int from, int to) {
            int most = holds.height(from) - (Math.abs(lean) >= 10 ? 0 : 1);
            if (holds.topIsSoup(from) && holds.height(to) <= most) {
                holds.moveTop(from, holds, to);
            }
        }
    }

    /** The lines of a text that was read, each as steps in the order in which they are worked. */
    private static final class Words {
        // Steps that put one value more come first, then those that change one, then those that join two.
        static final int NUMBER = 0;
        static final int VALUE = 1;
        static final int PART = 2;
        static final int NOT = 3;
        static final int PLUS = 4;
        static final int MINUS = 5;
        static final int TIMES = 6;
        static final int LESS = 7;
        static final int SAME = 8;
        static final int MORE = 9;
        static final int AND = 10;
        static final int OR = 11;

        private static final int ROOM = 16384;
        /** Two for each of nine levels of brackets, four for a comparison, and the floor. */
        private static final int DEEPEST = 32;
        /** Slots under the first value, so that a step never looks below the stack. */
        private static final int FLOOR = 2;

        int lines;
        private int used;
        private final int[] steps = new int[TAPE_MOST];
        private final int[] heads = new int[LINES_MOST];
        private final int[] persons = new int[LINES_MOST];
        private final int[] whens = new int[LINES_MOST];
        private final int[] ends = new int[LINES_MOST];
        private final int[] stack = new int[DEEPEST];

        void clear() {
            lines = 0;
            used = 0;
        }

        void beginLine(int head, int person) {
            if (lines < LINES_MOST) {
                heads[lines] = head;
                persons[lines] = person;
            }
        }

        void beginWhen() {
            if (lines < LINES_MOST) {
                whens[lines] = used;
            }
        }

        void endLine() {
            if (lines < LINES_MOST) {
                ends[lines] = used;
                lines++;
            }
        }

        void add(int step, int number) {
            if (used < TAPE_MOST) {
                steps[used] = step * ROOM + number;
                used++;
            }
        }

        boolean isOf(int line, int head) {
            return within(line, lines) && heads[line] == head;
        }

        boolean isFor(int line, int person) {
            return within(line, lines) && (person == NONE || persons[line] == person);
        }

        boolean isSo(int line, int[] values) {
            return within(line, lines) && (whens[line] == ends[line] || work(whens[line], ends[line], values) != 0);
        }

        int valueOf(int line, int[] values) {
            return within(line, lines) ? work(line == 0 ? 0 : ends[line - 1], whens[line], values) : 0;
        }

        private int work(int from, int to, int[] values) {
            int top = FLOOR;
            for (int i = from; i < to && i < TAPE_MOST; i++) {
                if (i < 0 || top < FLOOR || top >= DEEPEST) {
                    return 0;
                }
                int step = steps[i] / ROOM;
                int number = steps[i] % ROOM;
                int left = stack[top - 2];
                int last = stack[top - 1];
                int made = 0;
                switch (step) {
                    case NUMBER:
                        made = number;
                        break;
                    case VALUE:
                        made = number < values.length ? values[number] : 0;
                        break;
                    case PART:
                        made = number == 0 ? 0 : last / number;
                        break;
                    case NOT:
                        made = 1 - last;
                        break;
                    case PLUS:
                        made = left + last;
                        break;
                    case MINUS:
                        made = left - last;
                        break;
                    case TIMES:
                        made = left * last;
                        break;
                    case LESS:
                        made = left < last ? 1 : 0;
                        break;
                    case SAME:
                        made = left == last ? 1 : 0;
                        break;
                    case MORE:
                        made = left > last ? 1 : 0;
                        break;
                    case AND:
                        made = left & last;
                        break;
                    default:
                        made = left | last;
                        break;
                }
                top += step <= VALUE ? 1 : step <= NOT ? 0 : -1;
                stack[top - 1] = made;
            }
            return top > FLOOR ? stack[top - 1] : 0;
        }
    }

    /** The tape, and how it is read as one of the two texts. */
    private static final class Reader {
        private static final String LAW_WORDS =
            "when or and not down dry soup sweat wet water ore layer sort rain clock shaken lit";
        private static final String CODE_WORDS =
            "when or and not load stop test said can age rain day loaded swell port";
        private static final String SIGNS = ";+-*/()<=>";

        private static final int CANNOT_STAND = 1;
        private static final int WRONG_NUMBER = 2;
        private static final int TOO_MANY = 3;
        private static final int OPEN_MOST = 8;

        // Kinds of tokens: a sign is its own number, a word WORD and its place among the words,
        // a number NUMBER and what it comes to.
        private static final int END = 0;
        private static final int BAD = 1;
        private static final int WORD = 256;
        private static final int WHEN = 256;
        private static final int OR = 257;
        private static final int AND = 258;
        private static final int NOT = 259;
        private static final int HEAD = 260;
        private static final int NUMBER = 1000;

        private final int[] tape = new int[TAPE_MOST];
        private int length;
        private final int[] kinds = new int[TAPE_MOST + 1];
        private final int[] places = new int[TAPE_MOST + 1];
        private int current;
        private int kind;
        private boolean forLaws;
        private Words into = new Words();
        int faultKind;
        int faultPlace = NONE;

        boolean hasRoom(int bytes) {
            return length + bytes <= TAPE_MOST;
        }

        int addBytes(int four) {
            for (int shift = 24; shift >= 0 && length < TAPE_MOST; shift -= 8) {
                tape[length] = four >>> shift & 255;
                length++;
            }
            return length;
        }

        boolean cutTo(int n) {
            if (n < 0 || n > length) {
                return false;
            }
            length = n;
            return true;
        }

        /** Gives what was read, and takes what stood before it, to be written over the next time. */
        Words exchange(Words old) {
            Words read = into;
            into = old;
            return read;
        }

        boolean readTape(boolean asLaws) {
            forLaws = asLaws;
            faultKind = 0;
            faultPlace = NONE;
            into.clear();
            scan();
            length = 0;
            current = 0;
            kind = kinds[0];
            boolean good = true;
            for (int n = 0; n <= TAPE_MOST && good && kind != END; n++) {
                good = line();
            }
            return good;
        }

        private void scan() {
            int count = 0;
            int at = 0;
            while (at < length && count < TAPE_MOST) {
                int sign = tape[at];
                int from = at;
                at++;
                if (sign == 32 || sign == 10) {
                    continue;
                }
                if (isLetter(sign)) {
                    at = runEnd(from, true);
                    kinds[count] = wordKind(from, at);
                } else if (isDigit(sign)) {
                    at = runEnd(from, false);
                    kinds[count] = numberKind(from, at);
                } else {
                    kinds[count] = SIGNS.indexOf((char) sign) >= 0 ? sign : BAD;
                }
                places[count] = from;
                count++;
            }
            kinds[count] = END;
            places[count] = length;
        }

        private static boolean isLetter(int sign) {
            return sign >= 'a' && sign <= 'z' || sign >= 'A' && sign <= 'Z';
        }

        private static boolean isDigit(int sign) {
            return sign >= '0' && sign <= '9';
        }

        /** Where the letters, or the digits, that stand together from here on end. */
        private int runEnd(int from, boolean letters) {
            int at = from;
            while (at < length && (letters ? isLetter(tape[at]) : isDigit(tape[at]))) {
                at++;
            }
            return at;
        }

        private int numberKind(int from, int to) {
            if (to - from > 4) {
                return BAD;
            }
            int number = 0;
            for (int at = from; at < to; at++) {
                number = 10 * number + tape[at] - '0';
            }
            return NUMBER + number;
        }

        private int wordKind(int from, int to) {
            String words = forLaws ? LAW_WORDS : CODE_WORDS;
            int word = WORD;
            int at = from;
            boolean same = true;
            for (int i = 0; i < words.length(); i++) {
                char sign = words.charAt(i);
                if (sign != ' ') {
                    same = same && at < to && tape[at] == sign;
                    at++;
                } else if (same && at == to) {
                    return word;
                } else {
                    word++;
                    at = from;
                    same = true;
                }
            }
            return same && at == to ? word : BAD;
        }

        /** Goes to the next token; the end is never left behind. */
        private void advance() {
            if (kind != END && current < TAPE_MOST) {
                current++;
                kind = kinds[current];
            }
        }

        /** True if there was such a token, which is left behind then. */
        private boolean take(int wanted) {
            if (kind != wanted) {
                return false;
            }
            advance();
            return true;
        }

        /** What the number that stands here comes to, or NONE if none does. */
        private int numberHere() {
            return kind >= NUMBER ? kind - NUMBER : NONE;
        }

        private boolean fail(int which) {
            faultKind = which;
            faultPlace = current <= TAPE_MOST ? places[current] : NONE;
            return false;
        }

        private int headKinds() {
            return forLaws ? LAW_KINDS : CODE_KINDS;
        }

        private boolean line() {
            int head = kind - HEAD;
            if (!within(head, headKinds())) {
                return fail(CANNOT_STAND);
            }
            if (into.lines >= LINES_MOST) {
                return fail(TOO_MANY);
            }
            advance();
            if (!(forLaws ? lawPart(head) : personPart(head))) {
                return false;
            }
            into.beginWhen();
            if (take(WHEN)) {
                if (!claims(0)) {
                    return false;
                }
            } else if (!forLaws) {
                return fail(CANNOT_STAND);
            }
            if (!take(';')) {
                return fail(CANNOT_STAND);
            }
            into.endLine();
            return true;
        }

        private boolean lawPart(int head) {
            into.beginLine(head, NONE);
            return sum();
        }

        private boolean personPart(int head) {
            int person = numberHere();
            if (person == NONE) {
                return fail(CANNOT_STAND);
            }
            if (person >= PERSONS) {
                return fail(WRONG_NUMBER);
            }
            advance();
            into.beginLine(head, person);
            return true;
        }

        /** Claims joined by or, and closer by and. */
        private boolean claims(int open) {
            boolean joinsOr = false;
            boolean joinsAnd = false;
            for (int n = 0; n <= TAPE_MOST; n++) {
                if (!claim(open)) {
                    return false;
                }
                if (joinsAnd) {
                    into.add(Words.AND, 0);
                }
                joinsAnd = take(AND);
                if (joinsAnd) {
                    continue;
                }
                if (joinsOr) {
                    into.add(Words.OR, 0);
                }
                joinsOr = take(OR);
                if (!joinsOr) {
                    return true;
                }
            }
            return true;
        }

        private boolean claim(int open) {
            if (kind == NOT || kind == '(') {
                return open < OPEN_MOST ? opened(open + 1) : fail(TOO_MANY);
            }
            if (!sum()) {
                return false;
            }
            int step = Words.LESS + kind - '<';
            if (kind < '<' || kind > '>') {
                return fail(CANNOT_STAND);
            }
            advance();
            if (!sum()) {
                return false;
            }
            into.add(step, 0);
            return true;
        }

        /** What a bracket or a not opens. */
        private boolean opened(int open) {
            if (take('(')) {
                return claims(open) && (take(')') || fail(CANNOT_STAND));
            }
            advance();
            if (!claim(open)) {
                return false;
            }
            into.add(Words.NOT, 0);
            return true;
        }

        /** Units joined by + and -, and closer by * and /. */
        private boolean sum() {
            int joins = NONE;
            boolean timed = false;
            for (int n = 0; n <= TAPE_MOST; n++) {
                if (!unit()) {
                    return false;
                }
                if (timed) {
                    into.add(Words.TIMES, 0);
                }
                if (!parts()) {
                    return false;
                }
                timed = take('*');
                if (timed) {
                    continue;
                }
                if (joins != NONE) {
                    into.add(joins, 0);
                }
                joins = kind == '+' ? Words.PLUS : Words.MINUS;
                if (!take('+') && !take('-')) {
                    return true;
                }
            }
            return true;
        }

        private boolean unit() {
            int value = kind - HEAD - headKinds();
            if (numberHere() != NONE) {
                into.add(Words.NUMBER, numberHere());
            } else if (value >= 0) {
                into.add(Words.VALUE, value);
            } else {
                return fail(CANNOT_STAND);
            }
            advance();
            return true;
        }

        private boolean parts() {
            for (int n = 0; n <= TAPE_MOST && kind == '/'; n++) {
                advance();
                int divisor = numberHere();
                if (divisor == NONE) {
                    return fail(CANNOT_STAND);
                }
                if (divisor == 0) {
                    return fail(WRONG_NUMBER);
                }
                advance();
                into.add(Words.PART, divisor);
            }
            return true;
        }
    }

    /** The laws of water and ore, asked of one cell at one hour. */
    private static final class Laws {
        private static final int WET = 0;
        private static final int WATER = 1;
        private static final int ORE = 2;
        private static final int LAYER = 3;
        private static final int SORT = 4;
        private static final int RAIN = 5;
        private static final int CLOCK = 6;
        private static final int SHAKEN = 7;
        private static final int LIT = 8;

        Words words = new Words();
        int oreSort;
        private final int[] values = new int[9];

        void setTime(int rain, int clock) {
            values[SORT] = oreSort;
            values[RAIN] = rain;
            values[CLOCK] = clock;
        }

        int clock() {
            return values[CLOCK];
        }

        void setCell(int ore, int water, int layer, int shaken) {
            values[WET] = ore > 0 ? water / ore : 0;
            values[WATER] = water;
            values[ORE] = ore;
            values[LAYER] = layer;
            values[SHAKEN] = shaken;
        }

        void setLight(boolean lit) {
            values[LIT] = lit ? 1 : 0;
        }

        int comesTo(int which) {
            for (int line = 0; line < words.lines; line++) {
                if (words.isOf(line, which) && words.isSo(line, values)) {
                    return words.valueOf(line, values);
                }
            }
            return 0;
        }
    }

    /** The code of who may load, stop and must test. */
    private static final class Code {
        static final int CANS = 21;

        private static final int SAIDS = 21;
        private static final int AGES = 10;
        private static final int RAINS = 10;
        private static final int SAID = 0;
        private static final int CAN = 1;
        private static final int AGE = 2;
        private static final int RAIN = 3;
        private static final int DAY = 4;
        private static final int LOADED = 5;
        private static final int SWELL = 6;
        private static final int PORT = 7;

        Words words = new Words();
        /** The ways are looked for once for each code, by can, as there are some 44,000 to try. */
        boolean waysKnown;
        private final int[] ways = new int[CANS];
        private final int[] firsts = new int[CANS];
        private final int[] values = new int[8];

        void setPapers(int said, int can, int age, int rain) {
            values[SAID] = said;
            values[CAN] = can;
            values[AGE] = age;
            values[RAIN] = rain;
        }

        void setVoyage(int day, int loaded, int swell, int port) {
            values[DAY] = day;
            values[LOADED] = loaded;
            values[SWELL] = swell;
            values[PORT] = port;
        }

        /** Whether a line is so for a person, or (NONE) for anybody. */
        boolean someLine(int head, int person) {
            for (int line = 0; line < words.lines; line++) {
                if (words.isOf(line, head) && words.isFor(line, person) && words.isSo(line, values)) {
                    return true;
                }
            }
            return false;
        }

        void findWays() {
            if (waysKnown) {
                return;
            }
            waysKnown = true;
            setVoyage(0, 0, 0, 1);
            for (int can = 0; can < CANS; can++) {
                ways[can] = 0;
                firsts[can] = NONE;
                for (int said = 0; said < SAIDS; said++) {
                    findWaysOf(said, can);
                }
            }
        }

        private void findWaysOf(int said, int can) {
            for (int age = 0; age < AGES; age++) {
                for (int rain = 0; rain < RAINS; rain++) {
                    setPapers(said, can, age, rain);
                    if (someLine(MAY_LOAD, NONE) && !someLine(MAY_STOP, NONE)) {
                        ways[can]++;
                        if (firsts[can] == NONE) {
                            firsts[can] = 1000000 * said + 10000 * can + 100 * age + rain;
                        }
                    }
                }
            }
        }

        int waysAbove(int w) {
            int sum = 0;
            for (int can = Math.max(0, w + 1); can < CANS; can++) {
                sum += ways[can];
            }
            return sum;
        }

        int firstAbove(int w) {
            int first = NONE;
            for (int can = Math.max(0, w + 1); can < CANS; can++) {
                if (firsts[can] != NONE && (first == NONE || firsts[can] < first)) {
                    first = firsts[can];
                }
            }
            return first;
        }
    }

    /** Cans filled of the heap, and what they leave open of it. */
    private static final class Cans {
        private static final int MOST = 60;
        private static final int OLDEST = 99;

        int stepSize = 3;
        private int count;
        private final int[] cells = new int[MOST];
        private final int[] wets = new int[MOST];
        private final int[] hours = new int[MOST];

        int fill(int cell, int wet, int hour) {
            if (count >= MOST) {
                return NONE;
            }
            cells[count] = cell;
            wets[count] = wet;
            hours[count] = hour;
            count++;
            return count - 1;
        }

        int lastWet() {
            return within(count - 1, MOST) ? wets[count - 1] : 0;
        }

        int age(int now) {
            return within(count - 1, MOST) ? Math.min(now - hours[count - 1], OLDEST) : OLDEST;
        }

        int least(int cell, int upTo) {
            int least = 0;
            for (int i = 0; i < count && i < MOST; i++) {
                if (hours[i] <= upTo) {
                    least = Math.max(least, wets[i] - stepSize * distance(cells[i], cell));
                }
            }
            return Math.min(least, WET_MOST);
        }

        int greatest(int cell, int upTo) {
            int greatest = WET_MOST;
            for (int i = 0; i < count && i < MOST; i++) {
                if (hours[i] <= upTo) {
                    greatest = Math.min(greatest, wets[i] + stepSize * distance(cells[i], cell));
                }
            }
            return greatest;
        }

        int meanEnd(Stacks pile, int upTo, boolean upper) {
            int sum = 0;
            int number = 0;
            for (int cell = 0; cell < pile.ore.length; cell++) {
                if (pile.ore[cell] > 0) {
                    sum += upper ? greatest(cell, upTo) : least(cell, upTo);
                    number++;
                }
            }
            return number > 0 ? sum / number : NONE;
        }

        static int distance(int a, int b) {
            int x = a / (SIDE * HEAP_LAYERS) - b / (SIDE * HEAP_LAYERS);
            int y = a / HEAP_LAYERS % SIDE - b / HEAP_LAYERS % SIDE;
            int z = a % HEAP_LAYERS - b % HEAP_LAYERS;
            return Math.abs(x) + Math.abs(y) + Math.abs(z);
        }
    }

    /** Told places, and the fewest of them that are near enough to all the ore. */
    private static final class Places {
        private static final int MOST = 8;
        private static final int SETS = 256;

        private final int[] cells = {NONE, NONE, NONE, NONE, NONE, NONE, NONE, NONE};
        /** For each set of places whether some ore is near to those alone. */
        private final boolean[] needed = new boolean[SETS];

        boolean tell(int k, int cell) {
            if (!within(k, MOST)) {
                return false;
            }
            cells[k] = cell;
            return true;
        }

        /** A place that was not told is near to nothing, so it is never in the fewest. */
        int fewest(Stacks pile, int r) {
            findNeeded(pile, r);
            int best = NONE;
            for (int set = 0; set < SETS; set++) {
                boolean fewer = best == NONE || Integer.bitCount(set) < Integer.bitCount(best);
                if (fewer && isFair(set)) {
                    best = set;
                }
            }
            return best;
        }

        private void findNeeded(Stacks pile, int r) {
            for (int set = 0; set < SETS; set++) {
                needed[set] = false;
            }
            for (int cell = 0; cell < pile.ore.length; cell++) {
                if (pile.ore[cell] > 0) {
                    needed[nearTo(cell, r)] = true;
                }
            }
        }

        private int nearTo(int cell, int r) {
            int set = 0;
            for (int k = 0; k < MOST; k++) {
                if (cells[k] != NONE && Cans.distance(cells[k], cell) <= r) {
                    set |= 1 << k;
                }
            }
            return set & SETS - 1;
        }

        private boolean isFair(int set) {
            for (int near = 0; near < SETS; near++) {
                if (needed[near] && (near & set) == 0) {
                    return false;
                }
            }
            return true;
        }
    }

    /** The list of ships, as counts by harbour, month and sort. */
    private static final class Ships {
        private static final int MOST = 200;
        private static final int HARBOURS = 8;
        private static final int MONTHS = 12;

        private int count;
        private final int[] all = new int[HARBOURS * MONTHS * SORTS];
        private final int[] lost = new int[HARBOURS * MONTHS * SORTS];

        int add(int harbour, int month, int sort, boolean isLost) {
            boolean can = within(harbour, HARBOURS) && within(month, MONTHS) && within(sort, SORTS);
            if (!can || count >= MOST) {
                return NONE;
            }
            int row = (harbour * MONTHS + month) * SORTS + sort;
            all[row]++;
            lost[row] += isLost ? 1 : 0;
            count++;
            return count;
        }

        int countOf(int harbour, int month, int sort, boolean lostAlone) {
            if (!within(harbour + 1, HARBOURS + 1) || !within(month + 1, MONTHS + 1) || !within(sort + 1, SORTS + 1)) {
                return NONE;
            }
            int sum = 0;
            for (int row = 0; row < all.length; row++) {
                boolean meant = fits(harbour, row / (MONTHS * SORTS))
                    && fits(month, row / SORTS % MONTHS)
                    && fits(sort, row % SORTS);
                if (meant) {
                    sum += lostAlone ? lost[row] : all[row];
                }
            }
            return sum;
        }

        private static boolean fits(int told, int is) {
            return told == NONE || told == is;
        }

        int worstHarbour() {
            int worst = NONE;
            int worstLost = 0;
            int worstAll = 1;
            for (int harbour = 0; harbour < HARBOURS; harbour++) {
                int ships = countOf(harbour, NONE, NONE, false);
                int gone = countOf(harbour, NONE, NONE, true) + 1;
                if (ships > 0 && gone * worstAll > worstLost * (ships + 2)) {
                    worst = harbour;
                    worstLost = gone;
                    worstAll = ships + 2;
                }
            }
            return worst;
        }
    }
}
