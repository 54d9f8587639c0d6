import java.util.Random;

/** Long runs of chance calls (the same ones each time): the class and the model answer alike. */
public final class RandomRunsTest {
    private static final Check CHECK = new Check("RandomRunsTest");
    private static final String[] WORDS = {"high ", "low ", "for ", "dark ", ";", "0 ", "1", "61 ", "00", " ", "123", "x", "lows ", ","};

    private final LampWires x = new LampWires();
    private final Model m = new Model();
    private final Random r;
    private final int run;
    private final int mostLamps;
    /** Faults that what is seen mostly comes of, so that guesses have something to find. */
    private final int trueFirst;
    private final int trueSecond;

    private RandomRunsTest(int run) {
        this.run = run;
        this.r = new Random(run);
        // Pictures of many lamps take the model long.
        this.mostLamps = run % 10 == 0 ? 16 : 3 + run % 7;
        this.trueFirst = r.nextInt(8);
        this.trueSecond = r.nextInt(8);
    }

    private void due(String call, int got, int want) {
        CHECK.due("run " + run + ": " + call, got, want);
    }

    /** Mostly a number from 0 below n, sometimes one at or beyond an edge. */
    private int below(int n) {
        int kind = r.nextInt(24);
        if (kind == 0) {
            return new int[] {-1, n, n + 1, -4, Integer.MAX_VALUE, Integer.MIN_VALUE, -5, -2}[r.nextInt(8)];
        }
        return r.nextInt(Math.max(1, n));
    }

    private int turn() {
        return below((int) Math.pow(3, m.count(0)));
    }

    private int picture() {
        int bits = below(1 << m.count(1));
        return m.count(1) > 9 && bits > 0 ? bits & r.nextInt(65536) & r.nextInt(65536) : bits;
    }

    private void wiring() {
        int a = below(m.count(0));
        int b = below(m.count(0));
        int v = r.nextInt(3) == 0 ? below(11) : 1 + r.nextInt(2);
        switch (r.nextInt(7)) {
            case 0:
            case 6:
                int l = below(m.count(1));
                int how = r.nextInt(3) == 0 ? below(3) : 0;
                due("hurt(" + l + ", " + how + ")", x.hurt(l, how), m.hurt(l, how));
                break;
            case 1:
                int s = r.nextInt(3) == 0 ? below(32) : 2 + r.nextInt(9);
                due("supply(" + s + ")", x.supply(s), m.supply(s));
                break;
            case 2:
                due("between(" + a + ", " + b + ")", x.between(a, b), m.between(a, b));
                break;
            case 3:
                if (r.nextInt(12) == 0) {
                    int w = r.nextInt(9);
                    due("wires(" + w + ")", x.wires(w), m.wires(w));
                    if (r.nextInt(3) != 0) {
                        fillUp();
                    }
                }
                break;
            default:
                if (m.count(1) < mostLamps || mostLamps == 16) {
                    due("lamp(" + a + ", " + b + ", " + v + ")", x.lamp(a, b, v), m.lamp(a, b, v));
                }
        }
    }

    /** So many lamps as this run has, all of few unlike volts, and a program. */
    private void fillUp() {
        int unlike = 1 + r.nextInt(3);
        for (int i = 0; i < 120 && m.count(1) < mostLamps; i++) {
            int a = r.nextInt(m.count(0));
            int b = r.nextInt(m.count(0));
            int v = 1 + r.nextInt(unlike);
            due("lamp(" + a + ", " + b + ", " + v + ")", x.lamp(a, b, v), m.lamp(a, b, v));
        }
        if (r.nextInt(4) != 0) {
            feeding();
        }
    }

    private void turning() {
        int l = below(m.count(1));
        int t = turn();
        int what = below(4);
        switch (r.nextInt(7)) {
            case 0:
                due("turns(" + what + ")", x.turns(what), m.turns(what));
                break;
            case 1:
                due("alone(" + l + ")", x.alone(l), m.alone(l));
                break;
            case 2:
                due("astray(" + l + ")", x.astray(l), m.astray(l));
                break;
            default:
                due("glow(" + t + ", " + what + ")", x.glow(t, what), m.glow(t, what));
        }
    }

    private void picturing() {
        int l = below(m.count(1));
        int p = picture();
        int i = below(4);
        int n = below(17);
        switch (r.nextInt(10)) {
            case 0:
                due("sets()", x.sets(), m.sets());
                break;
            case 1:
                due("shown(" + n + ")", x.shown(n), m.shown(n));
                break;
            case 2:
                int what = r.nextBoolean() ? below(2) : 10 + below(4);
                due("plan(" + what + ")", x.plan(what), m.plan(what));
                break;
            case 3:
                due("light(" + l + ", " + i + ")", x.light(l, i), m.light(l, i));
                break;
            case 4:
                due("uneven(" + i + ")", x.uneven(i), m.uneven(i));
                break;
            case 5:
            case 6:
                int v = m.count(1) > 9 ? r.nextInt(3) : r.nextBoolean() ? 5 * r.nextInt(3) : below(16);
                due("level(" + l + ", " + v + ")", x.level(l, v), m.level(l, v));
                break;
            case 7:
                due("frame(" + p + ")", x.frame(p), m.frame(p));
                break;
            default:
                due("frameTurn(" + p + ", " + i + ")", x.frameTurn(p, i), m.frameTurn(p, i));
        }
    }

    private String lineText() {
        if (r.nextInt(4) == 0) {
            return "dark " + (1 + r.nextInt(60)) + ";";
        }
        int[] kind = new int[m.count(0)];
        StringBuilder high = new StringBuilder("high");
        StringBuilder low = new StringBuilder("low");
        int h = r.nextInt(kind.length);
        for (int i = 0; i < kind.length; i++) {
            int k = i == h ? 1 : i == (h + 1) % kind.length ? 2 : r.nextInt(4);
            (k == 1 ? high : k == 2 ? low : new StringBuilder()).append(' ').append(i);
        }
        return high + " " + low + " for " + (1 + r.nextInt(12)) + (r.nextBoolean() ? ";" : " ; ");
    }

    private void feeding() {
        StringBuilder text = new StringBuilder();
        int lines = r.nextInt(5) == 0 ? 13 : r.nextInt(8);
        for (int i = 0; i < lines; i++) {
            text.append(r.nextInt(40) == 0 ? "dark 1;" : lines == 13 ? "dark " + r.nextInt(62) % 61 + ";" : lineText());
        }
        if (r.nextInt(3) == 0 && text.length() > 0) {
            int place = r.nextInt(text.length());
            int behind = r.nextBoolean() ? place : Math.min(text.length(), place + r.nextInt(4));
            text.replace(place, behind, r.nextInt(8) == 0 ? "" + (char) r.nextInt(256) : WORDS[r.nextInt(WORDS.length)]);
        }
        for (int i = 0; i < text.length(); i += 8) {
            long v = 0;
            for (int j = i; j < i + 8; j++) {
                v = v << 8 | (j < text.length() ? text.charAt(j) : ' ');
            }
            due("feed(" + v + ")", x.feed(v), m.feed(v));
        }
        int n = r.nextInt(4) == 0 ? below(m.count(8)) : Math.min(m.count(8), text.length());
        due("end(" + n + ")", x.end(n), m.end(n));
        if (r.nextInt(5) != 0) {
            due("program() of '" + text + "'", x.program(), m.program());
        }
        due("fault()", x.fault(), m.fault());
    }

    private void programming() {
        int k = below(m.count(5));
        int l = below(m.count(1));
        int what = below(5);
        int t = below(10000);
        switch (r.nextInt(6)) {
            case 0:
                feeding();
                break;
            case 1:
                due("round(" + what + ")", x.round(what), m.round(what));
                break;
            case 2:
                due("at(" + t + ")", x.at(t), m.at(t));
                break;
            case 3:
                due("line(" + k + ", " + what + ")", x.line(k, what), m.line(k, what));
                break;
            default:
                due("shows(" + l + ", " + what + ")", x.shows(l, what), m.shows(l, what));
        }
    }

    private void guessing() {
        int k = below(m.count(5));
        int f = r.nextInt(4) == 0 ? -4 : below(2 * m.count(1));
        int g = r.nextInt(4) == 0 ? -4 : below(2 * m.count(1));
        if (r.nextInt(3) != 0) {
            f = trueFirst % Math.max(1, 2 * m.count(1));
            g = trueSecond % Math.max(1, 2 * m.count(1));
        }
        switch (r.nextInt(6)) {
            case 0:
                int turn = turn();
                due("would(" + turn + ", " + f + ", " + g + ")", x.would(turn, f, g), m.would(turn, f, g));
                break;
            case 1:
                due("tells(" + k % 3 + ")", x.tells(k % 3), m.tells(k % 3));
                break;
            case 2:
                int what = r.nextInt(3) == 0 ? below(2) : 1000 * (1 + r.nextInt(2)) + below(3);
                due("likely(" + what + ")", x.likely(what), m.likely(what));
                break;
            default:
                int told = m.would(Math.max(0, m.line(k, 0)), f, g);
                int bits = r.nextInt(12) == 0 ? picture() : told < 0 ? -4 : told;
                due("seen(" + k + ", " + bits + ")", x.seen(k, bits), m.seen(k, bits));
        }
    }

    private void laying() {
        int k = below(4);
        int lane = below(3);
        int n = below(41);
        int v = r.nextInt(8) == 0 ? r.nextInt() : r.nextInt(4) == 0 ? 256 * r.nextInt(300) + r.nextInt(16) : r.nextInt(17);
        switch (r.nextInt(4)) {
            case 0:
                int size = r.nextInt(3) == 0 ? n : Math.min(40, 16 + below(25));
                due("sheet(" + k + ", " + lane + ", " + size + ")", x.sheet(k, lane, size), m.sheet(k, lane, size));
                break;
            case 1:
                int f = r.nextInt(3) == 0 ? n : below(3);
                due("levels(" + k + ", " + lane + ", " + f + ")", x.levels(k, lane, f), m.levels(k, lane, f));
                break;
            default:
                int i = below(18);
                due("lay(" + k + ", " + i + ", " + v + ")", x.lay(k, i, v), m.lay(k, i, v));
        }
    }

    private void look() {
        int what = below(10);
        due("count(" + what + ")", x.count(what), m.count(what));
        int l = below(m.count(1));
        int of = below(5);
        due("lampOf(" + l + ", " + of + ")", x.lampOf(l, of), m.lampOf(l, of));
    }

    private void go() {
        if (r.nextInt(4) != 0) {
            int w = mostLamps > 6 ? 4 + r.nextInt(3) : 2 + r.nextInt(4);
            due("wires(" + w + ")", x.wires(w), m.wires(w));
        }
        fillUp();
        for (int i = 0; i < 240 && !CHECK.spoiled(); i++) {
            switch (r.nextInt(mostLamps == 16 ? 5 : 9)) {
                case 0:
                    wiring();
                    break;
                case 1:
                    programming();
                    break;
                case 2:
                    look();
                    break;
                case 3:
                    laying();
                    break;
                case 4:
                    turning();
                    break;
                case 5:
                case 6:
                    guessing();
                    break;
                default:
                    picturing();
            }
            if (mostLamps == 16 && i % 60 == 59) {
                picturing();
                guessing();
            }
        }
    }

    public static void main(String[] args) {
        int first = args.length > 0 ? Integer.parseInt(args[0]) : 1;
        int last = args.length > 1 ? Integer.parseInt(args[1]) : 400;
        for (int run = first; run <= last && !CHECK.spoiled(); run++) {
            new RandomRunsTest(run).go();
        }
        CHECK.finish();
    }
}
