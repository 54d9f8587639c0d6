import java.math.BigInteger;
import java.util.ArrayList;
import java.util.Arrays;
import java.util.HashMap;
import java.util.HashSet;
import java.util.List;
import java.util.Map;
import java.util.Set;
import java.util.TreeSet;

/** The document told a second time, as plainly and slowly as can be: every way is walked. */
final class Model {
    static final int BAD = -1, STATE = -2, FULL = -3, NONE = -4;

    private static final class Lamp {
        final int from;
        final int to;
        final int volts;
        int state;
        int level;

        Lamp(int from, int to, int volts) {
            this.from = from;
            this.to = to;
            this.volts = volts;
        }
    }

    private static final class Line {
        final int turn;
        final int ticks;
        int seen = NONE;

        Line(int turn, int ticks) {
            this.turn = turn;
            this.ticks = ticks;
        }
    }

    /** A way: its lamps in order, and the sum of their volts. */
    private record Way(List<Integer> lamps, int sum) {
    }

    private record Guess(int f, int g) {
    }

    private static final class Refusal extends RuntimeException {
        private static final long serialVersionUID = 1L;
        final int fault;
        final int place;

        Refusal(int fault, int place) {
            this.fault = fault;
            this.place = place;
        }
    }

    private int w = 4;
    private int supply = 5;
    private final List<Lamp> lamps = new ArrayList<>();
    private List<Line> lines = new ArrayList<>();
    private String tape = "";
    private int fault = 0;
    private final Object[] sheets = new Object[4];

    // ---- ways

    private int power(int n) {
        return (int) Math.pow(3, n);
    }

    private int figure(int turn, int wire) {
        return turn / power(wire) % 3;
    }

    private int[] states() {
        return lamps.stream().mapToInt(l -> l.state).toArray();
    }

    private List<Way> ways(int turn, int[] states) {
        List<Way> found = new ArrayList<>();
        for (int wire = 0; wire < w; wire++) {
            if (figure(turn, wire) == 1) {
                walk(turn, states, wire, 1 << wire, new ArrayList<>(), 0, found);
            }
        }
        return found;
    }

    private void walk(int turn, int[] states, int wire, int been, List<Integer> over, int sum, List<Way> found) {
        for (int l = 0; l < lamps.size(); l++) {
            Lamp lamp = lamps.get(l);
            if (states[l] == 1) {
                continue;
            }
            int next = lamp.from == wire ? lamp.to : states[l] == 2 && lamp.to == wire ? lamp.from : -1;
            if (next < 0 || (been >> next & 1) != 0 || figure(turn, next) == 1) {
                continue;
            }
            List<Integer> longer = new ArrayList<>(over);
            longer.add(l);
            int total = sum + (states[l] == 2 ? 0 : lamp.volts);
            if (figure(turn, next) == 2) {
                found.add(new Way(longer, total));
            } else {
                walk(turn, states, next, been | 1 << next, longer, total, found);
            }
        }
    }

    private int least(int turn, int[] states) {
        return ways(turn, states).stream().mapToInt(Way::sum).min().orElse(NONE);
    }

    private int glowing(int turn, int[] states) {
        return glowing(turn, states, 1);
    }

    /** What glows, on ways over so many lamps or more. */
    private int glowing(int turn, int[] states, int over) {
        List<Way> all = ways(turn, states);
        int least = all.stream().mapToInt(Way::sum).min().orElse(NONE);
        int bits = 0;
        if (least >= 1 && least <= supply) {
            for (Way way : all) {
                if (way.sum == least && way.lamps.size() >= over) {
                    for (int l : way.lamps) {
                        bits |= states[l] == 0 ? 1 << l : 0;
                    }
                }
            }
        }
        return bits;
    }

    private int[] table;

    /** What glows in each turn as things are; kept until something changes it. */
    private int[] table() {
        if (table == null) {
            table = new int[power(w)];
            for (int t = 0; t < table.length; t++) {
                table[t] = glowing(t, states());
            }
        }
        return table;
    }

    private void changed() {
        table = null;
        frames.clear();
        frameCounts = null;
    }

    // ---- wires, lamps

    int wires(int n) {
        if (n < 2 || n > 6) {
            return BAD;
        }
        int was = w;
        w = n;
        lamps.clear();
        lines = new ArrayList<>();
        changed();
        return was;
    }

    int supply(int v) {
        if (v < 1 || v > 30) {
            return BAD;
        }
        int was = supply;
        supply = v;
        changed();
        return was;
    }

    private boolean pair(int from, int to) {
        return from >= 0 && from < w && to >= 0 && to < w && from != to;
    }

    private boolean lampIs(int l) {
        return l >= 0 && l < lamps.size();
    }

    int lamp(int from, int to, int volts) {
        if (!pair(from, to) || volts < 1 || volts > 9) {
            return BAD;
        }
        if (between(from, to) >= 0) {
            return STATE;
        }
        if (lamps.size() == 16) {
            return FULL;
        }
        lamps.add(new Lamp(from, to, volts));
        changed();
        return lamps.size() - 1;
    }

    int lampOf(int l, int what) {
        if (!lampIs(l) || what < 0 || what > 4) {
            return BAD;
        }
        Lamp it = lamps.get(l);
        return new int[] {it.from, it.to, it.volts, it.state, it.level}[what];
    }

    int hurt(int l, int how) {
        if (!lampIs(l) || how < 0 || how > 2) {
            return BAD;
        }
        int was = lamps.get(l).state;
        lamps.get(l).state = how;
        changed();
        return was;
    }

    int between(int from, int to) {
        if (!pair(from, to)) {
            return BAD;
        }
        for (int l = 0; l < lamps.size(); l++) {
            if (lamps.get(l).from == from && lamps.get(l).to == to) {
                return l;
            }
        }
        return NONE;
    }

    // ---- turns

    int glow(int turn, int what) {
        if (turn < 0 || turn >= power(w) || what < 0 || what > 2) {
            return BAD;
        }
        int bits = glowing(turn, states());
        return what == 0 ? bits : what == 1 ? least(turn, states()) : Integer.bitCount(bits);
    }

    int turns(int what) {
        int shorts = 0;
        int some = 0;
        int most = 0;
        int where = 0;
        for (int t = 0; t < power(w); t++) {
            shorts += least(t, states()) == 0 ? 1 : 0;
            int k = Integer.bitCount(table()[t]);
            some += k > 0 ? 1 : 0;
            if (k > most) {
                most = k;
                where = t;
            }
        }
        return what == 0 ? shorts : what == 1 ? some : what == 2 ? most : what == 3 ? where : BAD;
    }

    int alone(int l) {
        if (!lampIs(l)) {
            return BAD;
        }
        for (int t = 0; t < power(w); t++) {
            if (table()[t] == 1 << l) {
                return t;
            }
        }
        return NONE;
    }

    int astray(int l) {
        if (!lampIs(l)) {
            return BAD;
        }
        for (int t = 0; t < power(w); t++) {
            if ((glowing(t, states(), 2) >> l & 1) != 0) {
                return t;
            }
        }
        return NONE;
    }

    // ---- pictures, levels

    private final Map<Integer, List<Integer>> frames = new HashMap<>();

    private boolean pictureIs(int bits) {
        return bits >= 0 && bits < 1 << lamps.size();
    }

    /** The fewest sets that reach the picture from what is covered; null for a cover that can not be. */
    private int fewest(int picture, int covered, List<Integer> sets, Map<Integer, Integer> known) {
        if (covered == picture) {
            return 0;
        }
        Integer old = known.get(covered);
        if (old != null) {
            return old;
        }
        int best = 1000;
        for (int set : sets) {
            if ((covered | set) != covered) {
                best = Math.min(best, 1 + fewest(picture, covered | set, sets, known));
            }
        }
        known.put(covered, best);
        return best;
    }

    /** The turns of a frame; null, if it can not be. */
    private List<Integer> frameOf(int picture) {
        if (frames.containsKey(picture)) {
            return frames.get(picture);
        }
        List<Integer> sets = new ArrayList<>();
        for (int set : new TreeSet<>(Arrays.stream(table()).boxed().toList())) {
            if (set != 0 && (set & ~picture) == 0) {
                sets.add(set);
            }
        }
        Map<Integer, Integer> known = new HashMap<>();
        int size = fewest(picture, 0, sets, known);
        List<Integer> taken = size >= 1000 ? null : new ArrayList<>();
        int covered = 0;
        for (int left = size - 1; taken != null && left >= 0; left--) {
            int lamp = Integer.numberOfTrailingZeros(picture & ~covered);
            for (int t = 0; t < table().length; t++) {
                int set = table()[t];
                boolean suits = set != 0 && (set & ~picture) == 0 && (set >> lamp & 1) != 0;
                if (suits && fewest(picture, covered | set, sets, known) == left) {
                    taken.add(t);
                    covered |= set;
                    break;
                }
            }
        }
        frames.put(picture, taken);
        return taken;
    }

    int frame(int picture) {
        if (!pictureIs(picture)) {
            return BAD;
        }
        List<Integer> turns = frameOf(picture);
        return turns == null ? NONE : turns.size();
    }

    int frameTurn(int picture, int i) {
        if (!pictureIs(picture) || i < 0) {
            return BAD;
        }
        List<Integer> turns = frameOf(picture);
        return turns == null || i >= turns.size() ? NONE : turns.get(i);
    }

    int sets() {
        return (int) Arrays.stream(table()).distinct().count();
    }

    private int[] frameCounts;

    int shown(int n) {
        if (n < 0 || n > 16) {
            return BAD;
        }
        if (frameCounts == null) {
            frameCounts = new int[17];
            Set<Integer> all = new HashSet<>(Set.of(0));
            Set<Integer> sets = new HashSet<>(Arrays.stream(table()).boxed().toList());
            for (int i = 0; i <= 16; i++) {
                frameCounts[i] = all.size();
                if (i > 0 && frameCounts[i] == frameCounts[i - 1]) {
                    continue;
                }
                Set<Integer> more = new HashSet<>(all);
                for (int one : all) {
                    for (int set : sets) {
                        more.add(one | set);
                    }
                }
                all = more;
            }
        }
        return frameCounts[n];
    }

    int level(int l, int v) {
        if (!lampIs(l) || v < 0 || v > 15) {
            return BAD;
        }
        int was = lamps.get(l).level;
        lamps.get(l).level = v;
        return was;
    }

    private int plane(int p) {
        int bits = 0;
        for (int l = 0; l < lamps.size(); l++) {
            bits |= (lamps.get(l).level >> p & 1) << l;
        }
        return bits;
    }

    int plan(int what) {
        if (what >= 10 && what <= 13) {
            return frame(plane(what - 10));
        }
        if (what != 0 && what != 1) {
            return BAD;
        }
        int sum = 0;
        for (int p = 0; p < 4; p++) {
            if (frameOf(plane(p)) == null) {
                return NONE;
            }
            sum += frameOf(plane(p)).size() * (what == 0 ? 1 << p : 1);
        }
        return sum;
    }

    /** A fraction as numerator and denominator. */
    private static BigInteger[] plus(BigInteger[] a, BigInteger[] b) {
        BigInteger top = a[0].multiply(b[1]).add(b[0].multiply(a[1]));
        BigInteger bottom = a[1].multiply(b[1]);
        BigInteger d = top.gcd(bottom);
        return new BigInteger[] {top.divide(d), bottom.divide(d)};
    }

    private static BigInteger[] fraction(long top, long bottom) {
        return new BigInteger[] {BigInteger.valueOf(top), BigInteger.valueOf(bottom)};
    }

    private BigInteger[] lit(BigInteger[] sum, int l, int turn, int ticks) {
        int bits = glowing(turn, states());
        return (bits >> l & 1) == 0 ? sum : plus(sum, fraction(ticks, Integer.bitCount(bits)));
    }

    private BigInteger[] lightOf(int l) {
        BigInteger[] sum = fraction(0, 1);
        for (int p = 0; p < 4; p++) {
            for (int turn : frameOf(plane(p))) {
                sum = lit(sum, l, turn, 1 << p);
            }
        }
        return sum;
    }

    int light(int l, int what) {
        if (!lampIs(l) || what < 0 || what > 1) {
            return BAD;
        }
        return plan(0) == NONE ? NONE : lightOf(l)[what].intValueExact();
    }

    int uneven(int what) {
        if (what < 0 || what > 1) {
            return BAD;
        }
        if (plan(0) == NONE) {
            return NONE;
        }
        BigInteger[] most = fraction(0, 1);
        for (int a = 0; a < lamps.size(); a++) {
            for (int b = 0; b < lamps.size(); b++) {
                if (lamps.get(a).level > 0 && lamps.get(a).level == lamps.get(b).level) {
                    BigInteger[] other = lightOf(b);
                    BigInteger[] apart = plus(lightOf(a), new BigInteger[] {other[0].negate(), other[1]});
                    if (apart[0].multiply(most[1]).compareTo(most[0].multiply(apart[1])) > 0) {
                        most = apart;
                    }
                }
            }
        }
        return most[what].intValueExact();
    }

    // ---- programs

    int feed(long v) {
        if (tape.length() + 8 > 200) {
            return FULL;
        }
        for (int shift = 56; shift >= 0; shift -= 8) {
            tape += (char) (v >>> shift & 255);
        }
        return tape.length();
    }

    int end(int n) {
        if (n < 0 || n > tape.length()) {
            return BAD;
        }
        int was = tape.length();
        tape = tape.substring(0, n);
        return was;
    }

    private int reading;
    private String token;
    private int tokenPlace;

    /** Reads a token; the empty one is the end. */
    private void read() {
        while (reading < tape.length() && tape.charAt(reading) == ' ') {
            reading++;
        }
        tokenPlace = reading;
        String rest = tape.substring(reading);
        token = rest.isEmpty() ? "" : rest.startsWith(";") ? ";" : rest.replaceFirst("(?s)^([a-z]+|[0-9]+)?.*$", "$1");
        boolean name = List.of("high", "low", "for", "dark").contains(token);
        if (!rest.isEmpty() && !name && !token.equals(";") && !token.matches("[0-9]{1,2}")) {
            throw new Refusal(1, tokenPlace);
        }
        reading += token.length();
    }

    private boolean number() {
        return !token.isEmpty() && Character.isDigit(token.charAt(0));
    }

    private void must(boolean it, int what) {
        if (!it) {
            throw new Refusal(what, tokenPlace);
        }
    }

    private int wiresUpTo(String name, int figure, Set<Integer> had) {
        int turn = 0;
        read();
        must(number(), 2);
        while (number()) {
            int wire = Integer.parseInt(token);
            must(wire < w, 3);
            must(had.add(wire), 4);
            turn += figure * power(wire);
            read();
        }
        must(token.equals(name), 2);
        return turn;
    }

    private List<Line> parse() {
        List<Line> told = new ArrayList<>();
        reading = 0;
        read();
        while (!token.isEmpty()) {
            must(token.equals("high") || token.equals("dark"), 2);
            must(told.size() < 12, 5);
            int turn = 0;
            if (token.equals("high")) {
                Set<Integer> had = new HashSet<>();
                turn += wiresUpTo("low", 1, had);
                turn += wiresUpTo("for", 2, had);
            }
            read();
            must(number(), 2);
            int ticks = Integer.parseInt(token);
            must(ticks >= 1 && ticks <= 60, 3);
            read();
            must(token.equals(";"), 2);
            told.add(new Line(turn, ticks));
            read();
        }
        return told;
    }

    int program() {
        int answer;
        try {
            lines = parse();
            fault = 0;
            answer = lines.size();
        } catch (Refusal r) {
            fault = r.fault;
            answer = -10 - r.place;
        }
        tape = "";
        return answer;
    }

    int fault() {
        return fault;
    }

    private boolean lineIs(int k) {
        return k >= 0 && k < lines.size();
    }

    int line(int k, int what) {
        if (!lineIs(k) || what < 0 || what > 4) {
            return BAD;
        }
        Line it = lines.get(k);
        int begins = lines.subList(0, k).stream().mapToInt(x -> x.ticks).sum();
        return new int[] {it.turn, it.ticks, begins, glowing(it.turn, states()), it.seen}[what];
    }

    /** What glows in each tick of a round. */
    private List<Integer> ticks() {
        List<Integer> all = new ArrayList<>();
        for (Line line : lines) {
            int bits = glowing(line.turn, states());
            for (int i = 0; i < line.ticks; i++) {
                all.add(bits);
            }
        }
        return all;
    }

    int round(int what) {
        if (what < 0 || what > 3) {
            return BAD;
        }
        int any = 0;
        int all = lines.isEmpty() ? 0 : -1;
        for (int bits : ticks()) {
            any |= bits;
            all &= bits;
        }
        int shorts = (int) lines.stream().filter(x -> least(x.turn, states()) == 0).count();
        return new int[] {ticks().size(), any, all, shorts}[what];
    }

    int shows(int l, int what) {
        if (!lampIs(l) || what < 0 || what > 3) {
            return BAD;
        }
        List<Integer> ticks = ticks();
        int lit = (int) ticks.stream().filter(b -> (b >> l & 1) != 0).count();
        if (what == 0) {
            return lit;
        }
        if (what == 1) {
            int most = 0;
            for (int start = 0; start < ticks.size() && lit > 0; start++) {
                int n = 0;
                while ((ticks.get((start + n) % ticks.size()) >> l & 1) == 0) {
                    n++;
                }
                most = Math.max(most, n);
            }
            return lit == 0 ? NONE : most;
        }
        BigInteger[] sum = fraction(0, 1);
        for (Line line : lines) {
            sum = lit(sum, l, line.turn, line.ticks);
        }
        return sum[what - 2].intValueExact();
    }

    int at(int t) {
        if (t < 0 || t > 9999) {
            return BAD;
        }
        return lines.isEmpty() ? STATE : ticks().get(t % ticks().size());
    }

    // ---- guesses

    int seen(int k, int bits) {
        if (!lineIs(k) || bits != NONE && !pictureIs(bits)) {
            return -10;
        }
        int was = lines.get(k).seen;
        lines.get(k).seen = bits;
        return was;
    }

    private int[] supposed(int f, int g) {
        int[] states = new int[lamps.size()];
        for (int fault : new int[] {f, g}) {
            if (fault != NONE) {
                states[fault / 2] = 1 + fault % 2;
            }
        }
        return states;
    }

    private boolean fits(int f, int g) {
        int[] states = supposed(f, g);
        return lines.stream().allMatch(x -> x.seen == NONE || glowing(x.turn, states) == x.seen);
    }

    private List<Guess> guesses(int faults) {
        List<Guess> all = new ArrayList<>();
        int most = 2 * lamps.size();
        for (int f = 0; f < (faults > 0 ? most : 1); f++) {
            for (int g = 0; g < (faults > 1 ? most : 1); g++) {
                Guess it = new Guess(faults > 0 ? f : NONE, faults > 1 ? g : NONE);
                boolean right = faults < 2 || f < g && f / 2 != g / 2;
                if (right && fits(it.f, it.g)) {
                    all.add(it);
                }
            }
        }
        return all;
    }

    int likely(int what) {
        int faults = 0;
        while (faults < 3 && guesses(faults).isEmpty()) {
            faults++;
        }
        List<Guess> all = faults < 3 ? guesses(faults) : List.of();
        if (what == 0) {
            return faults < 3 ? faults : NONE;
        }
        if (what == 1) {
            return all.size();
        }
        int i = what >= 2000 ? what - 2000 : what - 1000;
        if (what < 1000 || i >= all.size()) {
            return BAD;
        }
        return what >= 2000 ? all.get(i).g : all.get(i).f;
    }

    int tells(int what) {
        if (what < 0 || what > 1) {
            return BAD;
        }
        int changing = 0;
        int first = NONE;
        for (int f = 0; f < 2 * lamps.size(); f++) {
            int[] states = supposed(f, NONE);
            if (lines.stream().anyMatch(x -> glowing(x.turn, states) != glowing(x.turn, supposed(NONE, NONE)))) {
                changing++;
            } else if (first == NONE) {
                first = f;
            }
        }
        return what == 0 ? changing : first;
    }

    private boolean faultIs(int f) {
        return f == NONE || f >= 0 && f < 2 * lamps.size();
    }

    int would(int turn, int f, int g) {
        if (turn < 0 || turn >= power(w) || !faultIs(f) || !faultIs(g)) {
            return BAD;
        }
        if (f >= 0 && g >= 0 && f / 2 == g / 2) {
            return BAD;
        }
        return glowing(turn, supposed(f, g));
    }

    // ---- sheets: here the machine itself finds the faults

    int sheet(int k, int lane, int n) {
        if (k < 0 || k > 3 || lane < 0 || lane > 2 || n > 40) {
            return BAD;
        }
        try {
            sheets[k] = lane == 0 ? new byte[n] : lane == 1 ? new short[n] : new int[n];
            return 1;
        } catch (NegativeArraySizeException e) {
            return -14;
        }
    }

    int lay(int k, int i, int v) {
        if (k < 0 || k > 3) {
            return BAD;
        }
        try {
            if (sheets[k] instanceof byte[] row) {
                row[i] = (byte) v;
            } else if (sheets[k] instanceof short[] row) {
                row[i] = (short) v;
            } else {
                ((int[]) sheets[k])[i] = v;
            }
            return 1;
        } catch (NullPointerException e) {
            return -11;
        } catch (ArrayIndexOutOfBoundsException e) {
            return -12;
        }
    }

    private int cell(Object row, int lane, int i) {
        return lane == 0 ? ((byte[]) row)[i] : lane == 1 ? ((short[]) row)[i] : ((int[]) row)[i];
    }

    int levels(int k, int lane, int f) {
        if (k < 0 || k > 3 || lane < 0 || lane > 2) {
            return BAD;
        }
        if (sheets[k] == null) {
            return -11;
        }
        Class<?> wanted = lane == 0 ? byte[].class : lane == 1 ? short[].class : int[].class;
        if (!wanted.isInstance(sheets[k])) {
            return -13;
        }
        int[] read = new int[lamps.size()];
        for (int l = 0; l < lamps.size(); l++) {
            try {
                read[l] = cell(sheets[k], lane, f + l);
            } catch (ArrayIndexOutOfBoundsException e) {
                return -12;
            }
            if (read[l] < 0 || read[l] > 15) {
                return -20 - l;
            }
        }
        int changed = 0;
        for (int l = 0; l < lamps.size(); l++) {
            changed += lamps.get(l).level == read[l] ? 0 : 1;
            lamps.get(l).level = read[l];
        }
        return changed;
    }

    int count(int what) {
        switch (what) {
            case 0: return w;
            case 1: return lamps.size();
            case 2: return supply;
            case 3: return (int) lamps.stream().filter(l -> l.state == 1).count();
            case 4: return (int) lamps.stream().filter(l -> l.state == 2).count();
            case 5: return lines.size();
            case 6: return (int) lines.stream().filter(x -> x.seen != NONE).count();
            case 7: return lamps.stream().mapToInt(l -> l.level).sum();
            case 8: return tape.length();
            case 9: return sheets[0] == null ? NONE : java.lang.reflect.Array.getLength(sheets[0]);
            default: return BAD;
        }
    }
}
