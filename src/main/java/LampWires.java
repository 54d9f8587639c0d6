import java.util.Arrays;

/** Lamps between pairs of wires: what glows in a turn, pictures, levels, programs, guesses, sheets. */
public final class LampWires {
    public static final int BAD = -1, STATE = -2, FULL = -3, NONE = -4;

    private static final int MOST_WIRES = 6, FEWEST_WIRES = 2;
    private static final int PAIRS = MOST_WIRES * MOST_WIRES;
    private static final int MOST_TURNS = 729;
    private static final int MOST_LAMPS = 16;
    private static final int MOST_VOLTS = 9, MOST_SUPPLY = 30;
    private static final int SOUND = 0, BROKEN = 1, SHORTED = 2;
    private static final int MOST_LEVEL = 15, PLANES = 4;
    private static final int MOST_LINES = 12, MOST_TICKS = 60, LAST_TICK = 9999;
    private static final int TAPE_BYTES = 200;
    private static final int SHEETS = 4, LANES = 3, MOST_CELLS = 40;
    /** Answers of calls that tell a fault: this, less the fault or its place. */
    private static final int FAULTY = -10, NO_LEVEL = -20;
    private static final int NULL_FAULT = 1, INDEX_FAULT = 2, CAST_FAULT = 3, SIZE_FAULT = 4;
    /** Light is summed in parts of this size: 1 to 16 lamps share a tick without a rest. */
    private static final int PARTS = 720720;
    private static final int[] POWERS = {1, 3, 9, 27, 81, 243, 729};

    private final Board board = new Board();
    private final Ways ways = new Ways();
    private final TurnTable table = new TurnTable();
    private final Frames frames = new Frames();
    private final FrameFinder finder = new FrameFinder();
    private final Unions unions = new Unions();
    /** One row for all searches, each of which clears it first: all calls share one room. */
    private final long[] scratch = new long[FrameFinder.ROW];
    /** The light of each lamp in parts, as it was summed up latest. */
    private final int[] lightParts = new int[MOST_LAMPS];
    private final Tape tape = new Tape();
    private final Script script = new Script();
    private final Guesses guesses = new Guesses();
    private final Sheet[] sheets = new Sheet[SHEETS];

    public LampWires() {
        for (int k = 0; k < SHEETS; k++) {
            sheets[k] = new Sheet();
        }
    }

    // ---- wires, lamps

    public int wires(int n) {
        if (n < FEWEST_WIRES || n > MOST_WIRES) {
            return BAD;
        }
        int was = board.wireCount;
        board.restart(n);
        script.lines = 0;
        forgetGlow();
        guesses.forget();
        return was;
    }

    public int supply(int v) {
        if (v < 1 || v > MOST_SUPPLY) {
            return BAD;
        }
        int was = board.supply;
        board.supply = v;
        forgetGlow();
        guesses.forget();
        return was;
    }

    public int lamp(int from, int to, int volts) {
        if (!board.isPair(from, to) || volts < 1 || volts > MOST_VOLTS) {
            return BAD;
        }
        if (board.find(from, to) != NONE) {
            return STATE;
        }
        if (board.lampCount >= MOST_LAMPS) {
            return FULL;
        }
        forgetGlow();
        guesses.forget();
        return board.add(from, to, volts);
    }

    public int lampOf(int l, int what) {
        if (!board.isLamp(l)) {
            return BAD;
        }
        switch (what) {
            case 0:
                return board.from[l];
            case 1:
                return board.to[l];
            case 2:
                return board.volts[l];
            case 3:
                return board.state[l];
            case 4:
                return board.level[l];
            default:
                return BAD;
        }
    }

    public int hurt(int l, int how) {
        if (!board.isLamp(l) || how < SOUND || how > SHORTED) {
            return BAD;
        }
        int was = board.state[l];
        board.state[l] = how;
        forgetGlow();
        return was;
    }

    public int between(int from, int to) {
        if (!board.isPair(from, to)) {
            return BAD;
        }
        return board.find(from, to);
    }

    // ---- turns

    public int glow(int turn, int what) {
        if (!board.isTurn(turn) || what < 0 || what > 2) {
            return BAD;
        }
        if (what == 1) {
            return leastIn(turn);
        }
        int lamps = lampsIn(turn);
        return what == 0 ? lamps : Integer.bitCount(lamps);
    }

    public int turns(int what) {
        if (what < 0 || what > 3) {
            return BAD;
        }
        fillTable();
        switch (what) {
            case 0:
                return table.shorts;
            case 1:
                return table.bright;
            case 2:
                return table.most;
            default:
                return table.mostTurn;
        }
    }

    public int alone(int l) {
        if (!board.isLamp(l)) {
            return BAD;
        }
        fillTable();
        return table.leastTurnOf(1 << l);
    }

    public int astray(int l) {
        if (!board.isLamp(l)) {
            return BAD;
        }
        fillTable();
        return table.leastTurnAstray(l, POWERS[board.from[l]], POWERS[board.to[l]]);
    }

    // ---- pictures, levels

    public int frame(int picture) {
        if (!board.isPicture(picture)) {
            return BAD;
        }
        return frameOf(picture).size;
    }

    public int frameTurn(int picture, int i) {
        if (!board.isPicture(picture) || i < 0) {
            return BAD;
        }
        Frame frame = frameOf(picture);
        return i < frame.size ? frame.turns[i] : NONE;
    }

    public int sets() {
        fillTable();
        // TURN 0 leaves all wires free, so the set of no lamps is always one of them.
        return table.kinds + 1;
    }

    public int shown(int n) {
        if (n < 0 || n > MOST_LAMPS) {
            return BAD;
        }
        if (!unions.known) {
            fillTable();
            unions.reckon(table, board.lampCount, scratch);
        }
        return unions.atMost[n];
    }

    public int level(int l, int v) {
        if (!board.isLamp(l) || !isLevel(v)) {
            return BAD;
        }
        int was = board.level[l];
        board.level[l] = v;
        return was;
    }

    public int plan(int what) {
        if (what >= 10 && what < 10 + PLANES) {
            return frameOf(board.plane(what - 10)).size;
        }
        if (what != 0 && what != 1) {
            return BAD;
        }
        int sum = 0;
        for (int p = 0; p < PLANES; p++) {
            int size = frameOf(board.plane(p)).size;
            if (size == NONE) {
                return NONE;
            }
            sum += what == 0 ? size << p : size;
        }
        return sum;
    }

    public int light(int l, int what) {
        if (!board.isLamp(l) || !isFractionPart(what)) {
            return BAD;
        }
        return gatherPlanLight() ? fraction(lightParts[l], what) : NONE;
    }

    public int uneven(int what) {
        if (!isFractionPart(what)) {
            return BAD;
        }
        return gatherPlanLight() ? fraction(farthestApart(), what) : NONE;
    }

    // ---- programs

    public int feed(long v) {
        if (tape.length + 8 > TAPE_BYTES) {
            return FULL;
        }
        tape.append(v);
        return tape.length;
    }

    public int end(int n) {
        if (n < 0 || n > tape.length) {
            return BAD;
        }
        int was = tape.length;
        tape.length = n;
        return was;
    }

    public int program() {
        tape.tell(board.wireCount);
        tape.length = 0;
        if (tape.fault != 0) {
            return FAULTY - tape.faultPlace;
        }
        script.take(tape);
        guesses.forget();
        return script.lines;
    }

    public int fault() {
        return tape.fault;
    }

    public int line(int k, int what) {
        if (!script.isLine(k)) {
            return BAD;
        }
        switch (what) {
            case 0:
                return script.turn[k];
            case 1:
                return script.ticks[k];
            case 2:
                return script.ticksBefore(k);
            case 3:
                return lampsIn(script.turn[k]);
            case 4:
                return script.seen[k];
            default:
                return BAD;
        }
    }

    public int round(int what) {
        switch (what) {
            case 0:
                return script.ticksBefore(script.lines);
            case 1:
                return lampsInAnyLine();
            case 2:
                return lampsInAllLines();
            case 3:
                return linesThatAreShorts();
            default:
                return BAD;
        }
    }

    public int shows(int l, int what) {
        if (!board.isLamp(l)) {
            return BAD;
        }
        switch (what) {
            case 0:
                return ticksLit(l);
            case 1:
                return ticksDark(l);
            case 2:
            case 3:
                gatherRoundLight();
                return fraction(lightParts[l], what - 2);
            default:
                return BAD;
        }
    }

    public int at(int t) {
        if (t < 0 || t > LAST_TICK) {
            return BAD;
        }
        int ticks = script.ticksBefore(script.lines);
        if (ticks < 1) {
            return STATE;
        }
        return lampsIn(script.turnAt(t % ticks));
    }

    // ---- guesses

    public int seen(int k, int lamps) {
        if (!script.isLine(k) || lamps != NONE && !board.isPicture(lamps)) {
            return FAULTY;
        }
        int was = script.seen[k];
        script.seen[k] = lamps;
        guesses.listed = false;
        return was;
    }

    public int likely(int what) {
        guesses.list(board, ways, script);
        if (what == 0) {
            return guesses.faults;
        }
        if (what == 1) {
            return guesses.number;
        }
        int i = what % 1000;
        if (what >= 1000 && what < 2000 && i < guesses.number) {
            return guesses.first[i];
        }
        if (what >= 2000 && what < 3000 && i < guesses.number) {
            return guesses.second[i];
        }
        return BAD;
    }

    public int tells(int what) {
        if (what != 0 && what != 1) {
            return BAD;
        }
        guesses.weigh(board, ways, script);
        return what == 0 ? guesses.telling : guesses.firstSilent;
    }

    public int would(int turn, int f, int g) {
        if (!board.isTurn(turn) || !board.isFaultOrNone(f) || !board.isFaultOrNone(g)) {
            return BAD;
        }
        if (f != NONE && g != NONE && f / 2 == g / 2) {
            return BAD;
        }
        guesses.suppose(board, ways, f, g);
        ways.solve(turn);
        return ways.glowing;
    }

    // ---- sheets

    public int sheet(int k, int lane, int n) {
        if (!isSheet(k) || !isLane(lane) || n > MOST_CELLS) {
            return BAD;
        }
        if (n < 0) {
            return FAULTY - SIZE_FAULT;
        }
        sheets[k].renew(lane, n);
        return 1;
    }

    public int lay(int k, int i, int v) {
        if (!isSheet(k)) {
            return BAD;
        }
        Sheet sheet = sheets[k];
        if (sheet.size == NONE) {
            return FAULTY - NULL_FAULT;
        }
        if (!sheet.isCell(i)) {
            return FAULTY - INDEX_FAULT;
        }
        sheet.put(i, v);
        return 1;
    }

    public int levels(int k, int lane, int f) {
        if (!isSheet(k) || !isLane(lane)) {
            return BAD;
        }
        Sheet sheet = sheets[k];
        if (sheet.size == NONE) {
            return FAULTY - NULL_FAULT;
        }
        if (sheet.lane != lane) {
            return FAULTY - CAST_FAULT;
        }
        for (int l = 0; l < board.lampCount; l++) {
            if (!sheet.isCell(f + l)) {
                return FAULTY - INDEX_FAULT;
            }
            if (!isLevel(sheet.cells[f + l])) {
                return NO_LEVEL - l;
            }
        }
        return board.takeLevels(sheet, f);
    }

    public int count(int what) {
        switch (what) {
            case 0:
                return board.wireCount;
            case 1:
                return board.lampCount;
            case 2:
                return board.supply;
            case 3:
                return board.lampsThatAre(BROKEN);
            case 4:
                return board.lampsThatAre(SHORTED);
            case 5:
                return script.lines;
            case 6:
                return script.linesSeen();
            case 7:
                return board.levelSum();
            case 8:
                return tape.length;
            case 9:
                return sheets[0].size;
            default:
                return BAD;
        }
    }

    // ---- what the calls share

    private static boolean isLevel(int v) {
        return v >= 0 && v <= MOST_LEVEL;
    }

    private static boolean isSheet(int k) {
        return k >= 0 && k < SHEETS;
    }

    private static boolean isLane(int lane) {
        return lane >= 0 && lane < LANES;
    }

    private static boolean isFractionPart(int what) {
        return what == 0 || what == 1;
    }

    /** The numerator (0) or denominator (1) of so many parts, in lowest terms. */
    private static int fraction(int parts, int what) {
        int whole = what == 0 ? parts : PARTS;
        int divisor = greatestDivisor(PARTS, parts);
        return divisor < 1 ? whole : whole / divisor;
    }

    private static int greatestDivisor(int one, int other) {
        int a = one;
        int b = other;
        // Euclid needs fewer than 48 steps for any two ints.
        for (int i = 0; i < 64 && b != 0; i++) {
            int rest = a % b;
            a = b;
            b = rest;
        }
        return a;
    }

    private void forgetGlow() {
        table.full = false;
        unions.known = false;
        frames.forget();
    }

    private void fillTable() {
        if (!table.full) {
            table.fill(board, ways, scratch);
        }
    }

    /** A single turn is cheaper than the table, so the table is asked only where it stands. */
    private int lampsIn(int turn) {
        if (table.full) {
            return table.glowing[turn];
        }
        ways.load(board, board.state);
        ways.solve(turn);
        return ways.glowing;
    }

    private int leastIn(int turn) {
        if (table.full) {
            return table.least[turn];
        }
        ways.load(board, board.state);
        ways.solve(turn);
        return ways.least;
    }

    private boolean glows(int l, int turn) {
        return (lampsIn(turn) >> l & 1) != 0;
    }

    private Frame frameOf(int picture) {
        Frame frame = frames.find(picture);
        if (!frame.known) {
            fillTable();
            finder.fill(frame, picture, table, scratch);
        }
        return frame;
    }

    /** Sums up the light of each lamp in the plan; whether there is one. */
    private boolean gatherPlanLight() {
        Arrays.fill(lightParts, 0);
        for (int p = 0; p < PLANES; p++) {
            Frame frame = frameOf(board.plane(p));
            if (frame.size == NONE) {
                return false;
            }
            for (int i = 0; i < frame.size; i++) {
                addLight(frame.turns[i], 1 << p);
            }
        }
        return true;
    }

    private void gatherRoundLight() {
        Arrays.fill(lightParts, 0);
        for (int k = 0; k < script.lines; k++) {
            addLight(script.turn[k], script.ticks[k]);
        }
    }

    private void addLight(int turn, int ticks) {
        int lamps = lampsIn(turn);
        int together = Integer.bitCount(lamps);
        if (together < 1) {
            return;
        }
        int parts = PARTS / together * ticks;
        for (int l = 0; l < board.lampCount; l++) {
            lightParts[l] += (lamps >> l & 1) * parts;
        }
    }

    /** The most parts by which the light of two lamps of one level above 0 differs. */
    private int farthestApart() {
        int farthest = 0;
        for (int a = 1; a < board.lampCount; a++) {
            for (int b = 0; b < a; b++) {
                if (board.level[a] > 0 && board.level[a] == board.level[b]) {
                    farthest = Math.max(farthest, Math.abs(lightParts[a] - lightParts[b]));
                }
            }
        }
        return farthest;
    }

    private int lampsInAnyLine() {
        int lamps = 0;
        for (int k = 0; k < script.lines; k++) {
            lamps |= lampsIn(script.turn[k]);
        }
        return lamps;
    }

    private int lampsInAllLines() {
        int lamps = script.lines == 0 ? 0 : board.allLamps();
        for (int k = 0; k < script.lines; k++) {
            lamps &= lampsIn(script.turn[k]);
        }
        return lamps;
    }

    private int linesThatAreShorts() {
        int shorts = 0;
        for (int k = 0; k < script.lines; k++) {
            if (leastIn(script.turn[k]) == 0) {
                shorts++;
            }
        }
        return shorts;
    }

    private int ticksLit(int l) {
        int ticks = 0;
        for (int k = 0; k < script.lines; k++) {
            if (glows(l, script.turn[k])) {
                ticks += script.ticks[k];
            }
        }
        return ticks;
    }

    /** Two rounds are gone through, so that a dark stretch round the end is seen whole. */
    private int ticksDark(int l) {
        boolean lit = false;
        int dark = 0;
        int most = 0;
        for (int again = 0; again < 2; again++) {
            for (int k = 0; k < script.lines; k++) {
                boolean glowing = glows(l, script.turn[k]);
                lit = lit || glowing;
                dark = glowing ? 0 : dark + script.ticks[k];
                most = Math.max(most, dark);
            }
        }
        return lit ? most : NONE;
    }

    // ---- classes inside

    /** The wires, the supply, and the lamps with their states and levels. */
    private static final class Board {
        int wireCount = 4;
        int supply = 5;
        int lampCount;
        final int[] from = new int[MOST_LAMPS];
        final int[] to = new int[MOST_LAMPS];
        final int[] volts = new int[MOST_LAMPS];
        final int[] state = new int[MOST_LAMPS];
        final int[] level = new int[MOST_LAMPS];

        void restart(int wires) {
            wireCount = wires;
            lampCount = 0;
        }

        int add(int start, int stop, int drop) {
            int l = lampCount;
            from[l] = start;
            to[l] = stop;
            volts[l] = drop;
            state[l] = SOUND;
            level[l] = 0;
            lampCount++;
            return l;
        }

        int find(int start, int stop) {
            for (int l = 0; l < lampCount; l++) {
                if (from[l] == start && to[l] == stop) {
                    return l;
                }
            }
            return NONE;
        }

        boolean isWire(int w) {
            return w >= 0 && w < wireCount;
        }

        boolean isPair(int start, int stop) {
            return isWire(start) && isWire(stop) && start != stop;
        }

        boolean isLamp(int l) {
            return l >= 0 && l < lampCount;
        }

        boolean isTurn(int turn) {
            return turn >= 0 && turn < POWERS[wireCount];
        }

        boolean isPicture(int lamps) {
            return lamps >= 0 && lamps <= allLamps();
        }

        boolean isFaultOrNone(int f) {
            return f == NONE || f >= 0 && f < 2 * lampCount;
        }

        int allLamps() {
            return (1 << lampCount) - 1;
        }

        int plane(int p) {
            int picture = 0;
            for (int l = 0; l < lampCount; l++) {
                picture |= (level[l] >> p & 1) << l;
            }
            return picture;
        }

        int takeLevels(Sheet sheet, int first) {
            int changed = 0;
            for (int l = 0; l < lampCount; l++) {
                int v = sheet.cells[first + l];
                if (level[l] != v) {
                    level[l] = v;
                    changed++;
                }
            }
            return changed;
        }

        int lampsThatAre(int how) {
            int number = 0;
            for (int l = 0; l < lampCount; l++) {
                if (state[l] == how) {
                    number++;
                }
            }
            return number;
        }

        int levelSum() {
            int sum = 0;
            for (int l = 0; l < lampCount; l++) {
                sum += level[l];
            }
            return sum;
        }
    }

    /** The ways between wires: for each pair the least sum of volts and the lamps on ways with it. */
    private static final class Ways {
        /** More than any way sums up to. */
        private static final int FAR = 1000;

        int least;
        int glowing;
        private int wireCount;
        private int supply;
        private final int[] stepVolts = new int[PAIRS];
        private final int[] stepLamps = new int[PAIRS];
        private final int[] sum = new int[PAIRS];
        private final int[] lamps = new int[PAIRS];

        /** Takes the lamps of the board, in these states, as the single steps of ways. */
        void load(Board board, int[] states) {
            wireCount = board.wireCount;
            supply = board.supply;
            Arrays.fill(stepVolts, FAR);
            Arrays.fill(stepLamps, 0);
            for (int l = 0; l < board.lampCount; l++) {
                int there = board.from[l] * MOST_WIRES + board.to[l];
                int back = board.to[l] * MOST_WIRES + board.from[l];
                if (states[l] == SHORTED) {
                    step(there, 0, 0);
                    step(back, 0, 0);
                } else if (states[l] == SOUND) {
                    step(there, board.volts[l], 1 << l);
                }
            }
        }

        private void step(int pair, int volts, int lamp) {
            if (volts < stepVolts[pair]) {
                stepVolts[pair] = volts;
                stepLamps[pair] = lamp;
            }
        }

        void solve(int turn) {
            int free = 0;
            int high = 0;
            int low = 0;
            for (int w = 0; w < wireCount; w++) {
                int figure = turn / POWERS[w] % 3;
                free |= figure == 0 ? 1 << w : 0;
                high |= figure == 1 ? 1 << w : 0;
                low |= figure == 2 ? 1 << w : 0;
            }
            leave(free);
            drive(high, low);
        }

        /** Leaves these wires free: ways between the others may lead over them. */
        void leave(int free) {
            System.arraycopy(stepVolts, 0, sum, 0, PAIRS);
            System.arraycopy(stepLamps, 0, lamps, 0, PAIRS);
            int others = (1 << wireCount) - 1;
            for (int w = 0; w < wireCount; w++) {
                if ((free >> w & 1) != 0) {
                    others &= ~(1 << w);
                    leadOver(w, others);
                }
            }
        }

        private void leadOver(int middle, int others) {
            for (int a = 0; a < wireCount; a++) {
                int into = a * MOST_WIRES + middle;
                if ((others >> a & 1) == 0 || sum[into] >= FAR) {
                    continue;
                }
                for (int b = 0; b < wireCount; b++) {
                    int on = middle * MOST_WIRES + b;
                    if (b != a && (others >> b & 1) != 0 && sum[on] < FAR) {
                        offer(a * MOST_WIRES + b, sum[into] + sum[on], lamps[into] | lamps[on]);
                    }
                }
            }
        }

        private void offer(int pair, int volts, int over) {
            if (volts < sum[pair]) {
                sum[pair] = volts;
                lamps[pair] = over;
            } else if (volts == sum[pair]) {
                lamps[pair] |= over;
            }
        }

        /** Finds what glows; the wires that are neither high nor low have been left free. */
        void drive(int high, int low) {
            int volts = FAR;
            int lit = 0;
            for (int a = 0; a < wireCount; a++) {
                if ((high >> a & 1) == 0) {
                    continue;
                }
                for (int b = 0; b < wireCount; b++) {
                    int pair = a * MOST_WIRES + b;
                    if ((low >> b & 1) == 0 || sum[pair] > volts) {
                        continue;
                    }
                    lit = sum[pair] < volts ? lamps[pair] : lit | lamps[pair];
                    volts = sum[pair];
                }
            }
            least = volts < FAR ? volts : NONE;
            glowing = volts >= 1 && volts <= supply ? lit : 0;
        }
    }

    /** What glows in each turn, and the unlike sets of lamps that do. */
    private static final class TurnTable {
        private static final int SETS = 1 << MOST_WIRES;

        boolean full;
        final int[] glowing = new int[MOST_TURNS];
        final byte[] least = new byte[MOST_TURNS];
        int shorts;
        int bright;
        int most;
        int mostTurn;
        /** The unlike sets of one lamp or more, in the order of the least turns that show them. */
        int kinds;
        final int[] kind = new int[MOST_TURNS];
        final int[] kindTurn = new int[MOST_TURNS];
        private int turnCount;
        /** A set of wires (bits) as figures 0 and 1 to the base 3. */
        private final int[] figures = new int[SETS];

        TurnTable() {
            for (int set = 1; set < SETS; set++) {
                figures[set] = figures[set >> 1] * 3 + (set & 1);
            }
        }

        /** All turns with the same free wires share one search for ways. */
        void fill(Board board, Ways ways, long[] scratch) {
            ways.load(board, board.state);
            turnCount = POWERS[board.wireCount];
            int all = (1 << board.wireCount) - 1;
            for (int free = 0; free <= all; free++) {
                ways.leave(free);
                fillDriven(ways, all & ~free);
            }
            gatherKinds(scratch);
            tally();
            full = true;
        }

        private void fillDriven(Ways ways, int driven) {
            for (int high = 0; high <= driven; high++) {
                if ((high & ~driven) == 0) {
                    int low = driven & ~high;
                    int turn = figures[high] + 2 * figures[low];
                    ways.drive(high, low);
                    glowing[turn] = ways.glowing;
                    least[turn] = (byte) ways.least;
                }
            }
        }

        private void gatherKinds(long[] met) {
            Arrays.fill(met, 0L);
            kinds = 0;
            for (int turn = 0; turn < turnCount; turn++) {
                int set = glowing[turn];
                long bit = 1L << (set & 63);
                if (set != 0 && (met[set >> 6] & bit) == 0) {
                    met[set >> 6] |= bit;
                    kind[kinds] = set;
                    kindTurn[kinds] = turn;
                    kinds++;
                }
            }
        }

        private void tally() {
            shorts = 0;
            bright = 0;
            most = 0;
            mostTurn = 0;
            for (int turn = 0; turn < turnCount; turn++) {
                int together = Integer.bitCount(glowing[turn]);
                shorts += least[turn] == 0 ? 1 : 0;
                bright += together > 0 ? 1 : 0;
                if (together > most) {
                    most = together;
                    mostTurn = turn;
                }
            }
        }

        int leastTurnOf(int set) {
            for (int i = 0; i < kinds; i++) {
                if (kind[i] == set) {
                    return kindTurn[i];
                }
            }
            return NONE;
        }

        /** A way over lamp l has another lamp if and only if one of its own two wires is free. */
        int leastTurnAstray(int l, int fromPower, int toPower) {
            for (int turn = 0; turn < turnCount; turn++) {
                boolean free = isFree(turn, fromPower) || isFree(turn, toPower);
                if (free && (glowing[turn] >> l & 1) != 0) {
                    return turn;
                }
            }
            return NONE;
        }

        private static boolean isFree(int turn, int power) {
            return power > 0 && turn / power % 3 == 0;
        }
    }

    /** The turns that show a picture: a size of NONE, if it can not be shown. */
    private static final class Frame {
        boolean known;
        int picture;
        int size;
        final int[] turns = new int[MOST_LAMPS];
    }

    /** The frames found latest: a plan asks for four pictures again and again. */
    private static final class Frames {
        private static final int KEPT = 8;

        private final Frame[] kept = new Frame[KEPT];
        private int next;

        Frames() {
            for (int i = 0; i < KEPT; i++) {
                kept[i] = new Frame();
            }
        }

        void forget() {
            for (int i = 0; i < KEPT; i++) {
                kept[i].known = false;
            }
        }

        /** The frame of a picture, or the one longest kept, which is not known then. */
        Frame find(int picture) {
            for (int i = 0; i < KEPT; i++) {
                if (kept[i].known && kept[i].picture == picture) {
                    return kept[i];
                }
            }
            Frame oldest = kept[next];
            next = (next + 1) % KEPT;
            oldest.known = false;
            return oldest;
        }
    }

    /** Finds the fewest turns for a picture. */
    private static final class FrameFinder {
        /** Four bits for each set of lamps. */
        static final int ROW = (1 << MOST_LAMPS) / 16;

        private int picture;
        /** For each set of lamps that are covered: how many turns more were too few. */
        private long[] failed;
        /** The sets that suit the picture and lie in no other one: no others are needed to count. */
        private int wideCount;
        private final int[] wide = new int[MOST_TURNS];
        private int widest;

        void fill(Frame frame, int wanted, TurnTable table, long[] scratch) {
            picture = wanted;
            failed = scratch;
            frame.picture = wanted;
            frame.known = true;
            frame.size = NONE;
            if (gather(table) != wanted) {
                return;
            }
            Arrays.fill(failed, 0L);
            int size = 0;
            // Each turn can show a lamp more, so no picture needs more turns than lamps.
            while (size < MOST_LAMPS && !reaches(0, size)) {
                size++;
            }
            frame.size = size;
            take(frame, table);
        }

        /** Gathers the sets that suit: the lamps that they show together. */
        private int gather(TurnTable table) {
            int together = 0;
            wideCount = 0;
            widest = 0;
            for (int i = 0; i < table.kinds; i++) {
                int set = table.kind[i];
                if ((set & ~picture) == 0) {
                    together |= set;
                    widest = Math.max(widest, Integer.bitCount(set));
                    keepIfWide(set);
                }
            }
            return together;
        }

        private void keepIfWide(int set) {
            int kept = 0;
            for (int i = 0; i < wideCount; i++) {
                // No kept set lies in another, so none has been dropped when this one is found in one.
                if ((set & ~wide[i]) == 0) {
                    return;
                }
                if ((wide[i] & ~set) != 0) {
                    wide[kept] = wide[i];
                    kept++;
                }
            }
            wide[kept] = set;
            wideCount = kept + 1;
        }

        /** Whether so many turns more can show the lamps of the picture that are not covered. */
        private boolean reaches(int covered, int left) {
            int open = picture & ~covered;
            if (open == 0) {
                return true;
            }
            if (left <= 0 || Integer.bitCount(open) > left * widest || left <= failedWith(covered)) {
                return false;
            }
            int lamp = Integer.lowestOneBit(open);
            for (int i = 0; i < wideCount; i++) {
                if ((wide[i] & lamp) != 0 && reaches(covered | wide[i], left - 1)) {
                    return true;
                }
            }
            noteFailed(covered, left);
            return false;
        }

        private int failedWith(int covered) {
            return (int) (failed[covered >> 4] >>> (covered & 15) * 4 & 15);
        }

        /** As many turns as lamps are always enough, so what fails is 15 at most. */
        private void noteFailed(int covered, int left) {
            int shift = (covered & 15) * 4;
            long others = failed[covered >> 4] & ~(15L << shift);
            failed[covered >> 4] = others | (long) left << shift;
        }

        private void take(Frame frame, TurnTable table) {
            int covered = 0;
            for (int i = 0; i < frame.size; i++) {
                int chosen = choose(table, covered, frame.size - i - 1);
                if (chosen != NONE) {
                    frame.turns[i] = table.kindTurn[chosen];
                    covered |= table.kind[chosen];
                }
            }
        }

        private int choose(TurnTable table, int covered, int left) {
            int lamp = Integer.lowestOneBit(picture & ~covered);
            for (int i = 0; i < table.kinds; i++) {
                int set = table.kind[i];
                if ((set & lamp) != 0 && (set & ~picture) == 0 && reaches(covered | set, left)) {
                    return i;
                }
            }
            return NONE;
        }
    }

    /**
     * How many pictures can be shown by so many turns: the unions of so many sets that glow.
     * A row of bits for all pictures has a word for each set of the lower ten lamps, in which
     * each bit stands for a set of the upper six: 64 pictures are joined with a set at once.
     */
    private static final class Unions {
        private static final int LOWER = 10;
        private static final int WORDS = 1 << LOWER;
        private static final int UPPER_SETS = 64;
        private static final int MET = 0, FRONT = WORDS, NEXT = 2 * WORDS;
        /** Bit b of word j is set, if bit j of b is. */
        private static final long[] WITH = {
            0xAAAAAAAAAAAAAAAAL, 0xCCCCCCCCCCCCCCCCL, 0xF0F0F0F0F0F0F0F0L,
            0xFF00FF00FF00FF00L, 0xFFFF0000FFFF0000L, 0xFFFFFFFF00000000L
        };

        boolean known;
        final int[] atMost = new int[MOST_LAMPS + 1];
        private int kinds;
        private final int[] ordered = new int[MOST_TURNS];
        private int words;
        private long[] rows;

        void reckon(TurnTable table, int lampCount, long[] scratch) {
            rows = scratch;
            words = 1 << Math.min(lampCount, LOWER);
            order(table);
            Arrays.fill(rows, 0L);
            rows[MET] = 1L;
            rows[FRONT] = 1L;
            int all = 1 << lampCount;
            int found = 1;
            atMost[0] = 1;
            for (int n = 1; n <= MOST_LAMPS; n++) {
                found = found == 0 || atMost[n - 1] == all ? 0 : advance();
                atMost[n] = atMost[n - 1] + found;
            }
            known = true;
        }

        /** Sets with the same upper lamps stand together, so that a word is raised once for all. */
        private void order(TurnTable table) {
            kinds = 0;
            for (int upper = 0; upper < UPPER_SETS; upper++) {
                for (int i = 0; i < table.kinds; i++) {
                    if (table.kind[i] >> LOWER == upper) {
                        ordered[kinds] = table.kind[i];
                        kinds++;
                    }
                }
            }
        }

        /** Joins what was met latest with each set: how many pictures are new. */
        private int advance() {
            for (int w = 0; w < words; w++) {
                if (rows[FRONT + w] != 0L) {
                    join(w, rows[FRONT + w]);
                }
            }
            int found = 0;
            for (int w = 0; w < words; w++) {
                long fresh = rows[NEXT + w] & ~rows[MET + w];
                rows[MET + w] |= fresh;
                rows[FRONT + w] = fresh;
                rows[NEXT + w] = 0L;
                found += Long.bitCount(fresh);
            }
            return found;
        }

        private void join(int lower, long uppers) {
            long raised = uppers;
            int raisedBy = 0;
            for (int i = 0; i < kinds; i++) {
                int upper = ordered[i] >> LOWER;
                if (upper != raisedBy) {
                    raised = raise(uppers, upper);
                    raisedBy = upper;
                }
                rows[NEXT + (lower | ordered[i] & WORDS - 1)] |= raised;
            }
        }

        private static long raise(long uppers, int upper) {
            long raised = uppers;
            for (int j = 0; j < WITH.length; j++) {
                if ((upper >> j & 1) != 0) {
                    raised = raised & WITH[j] | (raised & ~WITH[j]) << (1 << j);
                }
            }
            return raised;
        }
    }

    /** The tape, and how it is read; what is read is kept here until it is known to be whole. */
    private static final class Tape {
        private static final int BLANK = 32;
        private static final int END = 0, NUMBER = 1, SEMICOLON = 2, HIGH = 3, LOW = 4, FOR = 5, DARK = 6;
        private static final int NO_NAME = 7;
        private static final int NO_TOKEN = 1, MISPLACED = 2, OUT_OF_BOUNDS = 3, WIRE_AGAIN = 4, TOO_MANY = 5;

        int length;
        int fault;
        int faultPlace;
        int lines;
        final int[] turn = new int[MOST_LINES];
        final int[] ticks = new int[MOST_LINES];
        private final byte[] bytes = new byte[TAPE_BYTES];
        private int wires;
        /** The token read latest: what it is, its first byte, the byte behind it, its value. */
        private int token;
        private int place;
        private int behind;
        private int value;
        /** The line that is read. */
        private int driven;
        private int lineTurn;

        void append(long v) {
            for (int i = 0; i < 8; i++) {
                bytes[length] = (byte) (v >>> 56 - 8 * i);
                length++;
            }
        }

        void tell(int wireCount) {
            wires = wireCount;
            fault = 0;
            faultPlace = 0;
            lines = 0;
            behind = 0;
            boolean more = true;
            for (int i = 0; i <= MOST_LINES && more; i++) {
                more = next() && token != END && readLine();
            }
        }

        private boolean readLine() {
            if (token != HIGH && token != DARK) {
                return refuse(MISPLACED);
            }
            if (lines >= MOST_LINES) {
                return refuse(TOO_MANY);
            }
            driven = 0;
            lineTurn = 0;
            if (token == HIGH && !(readWires(1, LOW) && readWires(2, FOR))) {
                return false;
            }
            return readTicks();
        }

        /** Wires, one at least, up to the name that follows them. */
        private boolean readWires(int figure, int follower) {
            if (!next() || !tokenIs(NUMBER)) {
                return false;
            }
            for (int i = 0; i < TAPE_BYTES && token == NUMBER; i++) {
                if (!takeWire(figure) || !next()) {
                    return false;
                }
            }
            return tokenIs(follower);
        }

        private boolean takeWire(int figure) {
            if (value >= wires) {
                return refuse(OUT_OF_BOUNDS);
            }
            if ((driven >> value & 1) != 0) {
                return refuse(WIRE_AGAIN);
            }
            driven |= 1 << value;
            lineTurn += figure * POWERS[value];
            return true;
        }

        private boolean readTicks() {
            if (!next() || !tokenIs(NUMBER)) {
                return false;
            }
            if (value < 1 || value > MOST_TICKS) {
                return refuse(OUT_OF_BOUNDS);
            }
            turn[lines] = lineTurn;
            ticks[lines] = value;
            if (!next() || !tokenIs(SEMICOLON)) {
                return false;
            }
            lines++;
            return true;
        }

        private boolean refuse(int what) {
            fault = what;
            faultPlace = place;
            return false;
        }

        private boolean tokenIs(int wanted) {
            return token == wanted || refuse(MISPLACED);
        }

        /** Reads a token; whether it is one (the end is one, too). */
        private boolean next() {
            place = behindRun(behind, BLANK, BLANK);
            if (place >= length) {
                token = END;
                return true;
            }
            int first = bytes[place];
            if (first == ';') {
                behind = place + 1;
                token = SEMICOLON;
                return true;
            }
            if (first >= '0' && first <= '9') {
                return readNumber();
            }
            return first >= 'a' && first <= 'z' ? readName() : refuse(NO_TOKEN);
        }

        private boolean readNumber() {
            behind = behindRun(place, '0', '9');
            if (behind - place > 2) {
                return refuse(NO_TOKEN);
            }
            token = NUMBER;
            value = 0;
            for (int i = place; i < behind; i++) {
                value = value * 10 + bytes[i] - '0';
            }
            return true;
        }

        private boolean readName() {
            behind = behindRun(place, 'a', 'z');
            token = spells("high") ? HIGH : spells("low") ? LOW : spells("for") ? FOR : spells("dark") ? DARK : NO_NAME;
            return token != NO_NAME || refuse(NO_TOKEN);
        }

        /** The first place from one on whose byte is not between these two. */
        private int behindRun(int start, int lowest, int highest) {
            int i = start;
            while (i < length && bytes[i] >= lowest && bytes[i] <= highest) {
                i++;
            }
            return i;
        }

        private boolean spells(String name) {
            if (behind - place != name.length()) {
                return false;
            }
            for (int i = 0; i < name.length(); i++) {
                if (bytes[place + i] != name.charAt(i)) {
                    return false;
                }
            }
            return true;
        }
    }

    /** The lines of the program, and what is seen in them. */
    private static final class Script {
        int lines;
        final int[] turn = new int[MOST_LINES];
        final int[] ticks = new int[MOST_LINES];
        final int[] seen = new int[MOST_LINES];

        void take(Tape tape) {
            lines = tape.lines;
            for (int k = 0; k < lines; k++) {
                turn[k] = tape.turn[k];
                ticks[k] = tape.ticks[k];
                seen[k] = NONE;
            }
        }

        boolean isLine(int k) {
            return k >= 0 && k < lines;
        }

        int ticksBefore(int line) {
            int sum = 0;
            for (int k = 0; k < line && k < lines; k++) {
                sum += ticks[k];
            }
            return sum;
        }

        /** The turn of a tick of a round. */
        int turnAt(int tick) {
            int left = tick;
            for (int k = 0; k < lines; k++) {
                if (left < ticks[k]) {
                    return turn[k];
                }
                left -= ticks[k];
            }
            return 0;
        }

        int linesSeen() {
            int number = 0;
            for (int k = 0; k < lines; k++) {
                if (seen[k] != NONE) {
                    number++;
                }
            }
            return number;
        }
    }

    /** Which faults of lamps explain what is seen, and which would change what glows. */
    private static final class Guesses {
        /** Two faults of each of two lamps out of sixteen. */
        private static final int MOST = 480;

        boolean listed;
        int faults;
        int number;
        final int[] first = new int[MOST];
        final int[] second = new int[MOST];
        boolean weighed;
        int telling;
        int firstSilent;
        private final int[] trial = new int[MOST_LAMPS];
        private final int[] sound = new int[MOST_LINES];

        void forget() {
            listed = false;
            weighed = false;
        }

        /** Takes all lamps as sound but for these faults. */
        void suppose(Board board, Ways ways, int f, int g) {
            Arrays.fill(trial, SOUND);
            spoil(f);
            spoil(g);
            ways.load(board, trial);
        }

        private void spoil(int f) {
            if (f != NONE) {
                trial[f / 2] = f % 2 == 0 ? BROKEN : SHORTED;
            }
        }

        void list(Board board, Ways ways, Script script) {
            if (listed) {
                return;
            }
            listed = true;
            number = 0;
            faults = 0;
            tryGuess(board, ways, script, NONE, NONE);
            if (number == 0) {
                faults = 1;
                listSingle(board, ways, script);
            }
            if (number == 0) {
                faults = 2;
                listDouble(board, ways, script);
            }
            if (number == 0) {
                faults = NONE;
            }
        }

        private void listSingle(Board board, Ways ways, Script script) {
            for (int f = 0; f < 2 * board.lampCount; f++) {
                tryGuess(board, ways, script, f, NONE);
            }
        }

        private void listDouble(Board board, Ways ways, Script script) {
            for (int f = 0; f < 2 * board.lampCount; f++) {
                for (int g = f + 1; g < 2 * board.lampCount; g++) {
                    if (f / 2 != g / 2) {
                        tryGuess(board, ways, script, f, g);
                    }
                }
            }
        }

        private void tryGuess(Board board, Ways ways, Script script, int f, int g) {
            suppose(board, ways, f, g);
            for (int k = 0; k < script.lines; k++) {
                if (script.seen[k] != NONE) {
                    ways.solve(script.turn[k]);
                    if (ways.glowing != script.seen[k]) {
                        return;
                    }
                }
            }
            if (number < MOST) {
                first[number] = f;
                second[number] = g;
                number++;
            }
        }

        void weigh(Board board, Ways ways, Script script) {
            if (weighed) {
                return;
            }
            weighed = true;
            telling = 0;
            firstSilent = NONE;
            suppose(board, ways, NONE, NONE);
            for (int k = 0; k < script.lines; k++) {
                ways.solve(script.turn[k]);
                sound[k] = ways.glowing;
            }
            for (int f = 0; f < 2 * board.lampCount; f++) {
                suppose(board, ways, f, NONE);
                if (changesLine(ways, script)) {
                    telling++;
                } else if (firstSilent == NONE) {
                    firstSilent = f;
                }
            }
        }

        private boolean changesLine(Ways ways, Script script) {
            for (int k = 0; k < script.lines; k++) {
                ways.solve(script.turn[k]);
                if (ways.glowing != sound[k]) {
                    return true;
                }
            }
            return false;
        }
    }

    /** A row of cells of one lane, or nothing: a size of NONE. */
    private static final class Sheet {
        int lane;
        int size = NONE;
        final int[] cells = new int[MOST_CELLS];

        void renew(int newLane, int newSize) {
            lane = newLane;
            size = newSize;
            Arrays.fill(cells, 0);
        }

        boolean isCell(int i) {
            return i >= 0 && i < size;
        }

        /** A byte or a short keeps the lowest bits alone. */
        void put(int i, int v) {
            cells[i] = lane == 0 ? (byte) v : lane == 1 ? (short) v : v;
        }
    }
}
