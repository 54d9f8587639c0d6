/** Promises 12 to 19: frame, frameTurn, sets, shown, level, plan, light, uneven. */
final class EdgesOfPictures {
    private static final int LEAST = Integer.MIN_VALUE;
    private static final int MOST = Integer.MAX_VALUE;

    static void look(Sentences s) {
        frame(s);
        frameTurn(s);
        sets(s);
        shown(s);
        level(s);
        plan(s);
        light(s);
        uneven(s);
    }

    /** Lamps from wires 0, 1 to wires 2, 3. */
    private static void grid(LampWires x) {
        x.lamp(0, 2, 1);
        x.lamp(0, 3, 1);
        x.lamp(1, 2, 1);
        x.lamp(1, 3, 1);
    }

    /** Nine lamps of unlike volts from wires 0, 1, 2 to wires 3, 4, 5: only one glows in a turn. */
    private static void single(LampWires x) {
        x.wires(6);
        x.supply(9);
        for (int l = 0; l < 9; l++) {
            x.lamp(l / 3, 3 + l % 3, 1 + l);
        }
    }

    /** Eight lamps from wires 0 to 3 to wires 4, 5, and eight back. */
    private static void sixteen(LampWires x) {
        x.wires(6);
        for (int i = 0; i < 8; i++) {
            x.lamp(i / 2, 4 + i % 2, 1);
            x.lamp(4 + i % 2, i / 2, 1);
        }
    }

    private static void frame(Sentences s) {
        s.of("Promise 12");
        LampWires x = s.says("FRAME of a PICTURE: how many TURNS.");
        s.due(x.frame(0), 0);
        single(x);
        s.due(x.frame(0), 0);
        s.due(x.frame(256), 1);
        s.due(x.frame(257), 2);
        s.due(x.frame(511), 9);
        // Two of the nine have like volts and can share a turn; each of the others needs one of its own.
        x.wires(6);
        for (int l = 0; l < 9; l++) {
            x.lamp(l / 3, 3 + l % 3, l < 2 ? 1 + l : l);
        }
        s.due(x.lampOf(1, 2), 2);
        s.due(x.lampOf(2, 2), 2);
        s.due(x.frame(6), 1);
        s.due(x.frame(7), 2);
        s.due(x.frame(511), 8);
        sixteen(x);
        s.due(x.frame(65535), 2);
        LampWires y = s.says("BAD: also LAMPS that there are not");
        s.each(-1, y::frame, LEAST, -1, 1, MOST);
        grid(y);
        s.each(-1, y::frame, LEAST, -4, -1, 16, 17, 31, MOST);
        sixteen(y);
        s.each(-1, y::frame, -1, 65536, 65537, MOST);
        x = s.says("NONE: it can not be.");
        grid(x);
        x.hurt(0, 1);
        s.due(x.frame(1), -4);
        s.due(x.frame(15), -4);
        s.due(x.frame(14), 1);
        x.hurt(0, 0);
        s.due(x.frame(1), 1);
        x.wires(4);
        x.lamp(0, 1, 6);
        s.due(x.frame(1), -4);
        x.supply(6);
        s.due(x.frame(1), 1);
    }

    private static void frameTurn(Sentences s) {
        s.of("Promise 13");
        LampWires x = s.says("TURN i of FRAME, as taken.");
        single(x);
        for (int l = 0; l < 9; l++) {
            int from = (int) Math.pow(3, l / 3);
            int to = 2 * (int) Math.pow(3, 3 + l % 3);
            s.due(x.frameTurn(511, l), from + to);
        }
        LampWires y = s.says("BAD: also i below 0");
        grid(y);
        s.each(-1, i -> y.frameTurn(15, i), LEAST, -4, -1);
        s.each(-1, i -> y.frameTurn(0, i), LEAST, -1);
        s.each(-1, picture -> y.frameTurn(picture, 0), LEAST, -1, 16, MOST);
        y.hurt(0, 1);
        s.due(y.frameTurn(1, -1), -1);
        LampWires z = s.says("NONE: it can not be, or has not so many.");
        grid(z);
        s.each(-4, i -> z.frameTurn(15, i), 1, 2, 15, 16, 17, MOST);
        s.each(-4, i -> z.frameTurn(0, i), 0, 1, MOST);
        z.hurt(0, 1);
        s.each(-4, i -> z.frameTurn(1, i), 0, 1, MOST);
        single(z);
        s.due(z.frameTurn(511, 9), -4);
    }

    private static void sets(Sentences s) {
        s.of("Promise 14");
        LampWires x = s.says("How many unlike sets of LAMPS can GLOW together (in any TURN; none is one, if it can be).");
        s.due(x.sets(), 1);
        x.lamp(0, 1, 1);
        s.due(x.sets(), 2);
        x.lamp(1, 0, 1);
        s.due(x.sets(), 3);
        x.hurt(0, 1);
        s.due(x.sets(), 2);
        x.hurt(1, 2);
        s.due(x.sets(), 1);
        x.wires(4);
        grid(x);
        s.due(x.sets(), 10);
        single(x);
        s.due(x.sets(), 10);
        x.supply(1);
        s.due(x.sets(), 2);
    }

    private static void shown(Sentences s) {
        s.of("Promise 15");
        LampWires x = s.says("How many PICTURES (of all sets of LAMPS) can be shown by a FRAME of n TURNS at most "
            + "(n 0 to 16).");
        s.due(x.shown(0), 1);
        s.due(x.shown(16), 1);
        single(x);
        int sum = 0;
        int choices = 1;
        for (int n = 0; n <= 16; n++) {
            sum += choices;
            s.due(x.shown(n), sum);
            choices = choices * (9 - Math.min(n, 9)) / (n + 1);
        }
        s.due(sum, 512);
        x.hurt(8, 1);
        s.due(x.shown(16), 256);
        s.due(x.shown(8), 256);
        s.due(x.shown(7), 255);
        sixteen(x);
        s.due(x.shown(0), 1);
        s.due(x.shown(16), 65536);
        shownByOne(s);
        LampWires y = s.says("BAD.");
        s.each(-1, y::shown, LEAST, -1, 17, MOST);
        sixteen(y);
        s.each(-1, y::shown, LEAST, -1, 17, MOST);
    }

    /** By one turn at most the sets that can glow are shown, and no others. */
    private static void shownByOne(Sentences s) {
        LampWires x = new LampWires();
        x.supply(1);
        sixteen(x);
        // One to four of the wires 0 to 3 with one or both of 4, 5, either way; two unlike sets of the four, the one
        // with 4, the other with 5, both ways at once; and none.
        s.due(x.sets(), 2 * 15 * 3 + 2 * 50 + 1);
        s.due(x.shown(1), 2 * 15 * 3 + 2 * 50 + 1);
        // Lamps 10 to 15 are those from wires 1, 2 to wires 3, 4, 5, and glow together.
        x.wires(6);
        for (int i = 0; i < 10; i++) {
            x.lamp(i < 7 ? 3 + i % 3 : 0, i < 7 ? i / 3 : 3 + i % 3, 1);
        }
        for (int i = 0; i < 6; i++) {
            x.lamp(1 + i / 3, 3 + i % 3, 1);
        }
        s.due(x.count(1), 16);
        s.due(x.glow(Sentences.turn(".++---"), 0), 63 << 10);
        s.due(x.shown(1), x.sets());
        // Of eleven lamps the last one alone.
        for (int l = 0; l < 16; l++) {
            x.hurt(l, l == 10 ? 0 : 1);
        }
        s.due(x.sets(), 2);
        s.due(x.shown(1), 2);
        s.due(x.shown(0), 1);
    }

    private static void level(Sentences s) {
        s.of("Promise 16");
        LampWires x = s.says("LEVEL of a LAMP becomes v: what it was.");
        x.lamp(0, 1, 1);
        s.due(x.level(0, 15), 0);
        s.due(x.level(0, 15), 15);
        s.due(x.plan(0), 15);
        s.due(x.level(0, 0), 15);
        s.due(x.plan(0), 0);
        s.due(x.level(0, 1), 0);
        s.due(x.lampOf(0, 4), 1);
        LampWires y = s.says("BAD.");
        s.due(y.level(0, 0), -1);
        y.lamp(0, 1, 1);
        y.level(0, 9);
        s.each(-1, v -> y.level(0, v), LEAST, -1, 16, MOST);
        s.each(-1, l -> y.level(l, 1), LEAST, -1, 1, 16, MOST);
        s.due(y.lampOf(0, 4), 9);
    }

    private static void plan(Sentences s) {
        s.of("Promise 17");
        LampWires x = s.says("PLAN: its SPAN (what 0), TURNS in all (1)");
        s.due(x.plan(0), 0);
        s.due(x.plan(1), 0);
        single(x);
        s.due(x.plan(0), 0);
        s.due(x.plan(1), 0);
        for (int l = 0; l < 9; l++) {
            x.level(l, 15);
        }
        s.due(x.plan(0), 9 * 15);
        s.due(x.plan(1), 9 * 4);
        x = s.says("10 and p: TURNS of PLANE p.");
        s.due(x.plan(10), 0);
        s.due(x.plan(13), 0);
        single(x);
        x.level(0, 1);
        x.level(1, 3);
        x.level(2, 7);
        x.level(3, 15);
        s.due(x.plan(10), 4);
        s.due(x.plan(11), 3);
        s.due(x.plan(12), 2);
        s.due(x.plan(13), 1);
        LampWires y = s.says("BAD");
        s.each(-1, y::plan, LEAST, -1, 2, 9, 14, MOST);
        x = s.says("NONE: a PLANE can not be (10 and p: that one).");
        grid(x);
        x.hurt(3, 1);
        for (int p = 0; p < 4; p++) {
            x.level(0, 15);
            x.level(3, 1 << p);
            s.due(x.plan(0), -4);
            s.due(x.plan(1), -4);
            for (int q = 0; q < 4; q++) {
                s.due(x.plan(10 + q), q == p ? -4 : 1);
            }
        }
        s.due(x.plan(14), -1);
        x.level(3, 0);
        s.due(x.plan(0), 15);
    }

    private static void light(Sentences s) {
        s.of("Promise 18");
        LampWires x = s.says("LIGHT of a LAMP in all ticks of PLAN, summed: 0 the numerator, 1 the denominator");
        single(x);
        x.level(8, 15);
        s.due(x.light(8, 0), 15);
        s.due(x.light(8, 1), 1);
        x.wires(4);
        grid(x);
        x.level(0, 15);
        x.level(2, 14);
        // Plane 0: lamp 0 alone; the planes above: it shares fourteen ticks.
        s.due(x.light(0, 0), 8);
        s.due(x.light(2, 0), 7);
        sixteen(x);
        for (int l = 0; l < 16; l++) {
            x.level(l, 15);
        }
        // Eight one way, then the eight others, in each plane.
        s.due(x.plan(0), 30);
        for (int l = 0; l < 16; l++) {
            s.due(x.light(l, 0), 15);
            s.due(x.light(l, 1), 8);
        }
        s.due(x.uneven(0), 0);
        x = s.says("in lowest terms (above 0).");
        grid(x);
        s.due(x.light(0, 0), 0);
        s.due(x.light(0, 1), 1);
        for (int l = 0; l < 4; l++) {
            x.level(l, 6);
        }
        s.due(x.light(0, 0), 3);
        s.due(x.light(0, 1), 2);
        for (int l = 0; l < 4; l++) {
            x.level(l, 8);
        }
        s.due(x.light(3, 0), 2);
        s.due(x.light(3, 1), 1);
        LampWires y = s.says("BAD");
        s.due(y.light(0, 0), -1);
        grid(y);
        s.each(-1, l -> y.light(l, 0), LEAST, -1, 4, 16, MOST);
        s.each(-1, what -> y.light(0, what), LEAST, -1, 2, MOST);
        y.hurt(0, 1);
        y.level(0, 1);
        s.each(-1, what -> y.light(0, what), LEAST, -1, 2, MOST);
        x = s.says("NONE: there is no PLAN.");
        grid(x);
        x.hurt(0, 1);
        s.due(x.light(0, 0), 0);
        x.level(0, 8);
        x.level(1, 1);
        s.due(x.light(0, 0), -4);
        s.due(x.light(1, 0), -4);
        s.due(x.light(1, 1), -4);
        s.due(x.light(2, 0), -4);
    }

    /** Sixteen lamps, two of them of level 1: the one glows alone, the other shares its tick with a third of level 3. */
    private static LampWires twoOfOneLevel(int one, int other) {
        LampWires x = new LampWires();
        x.wires(6);
        int third = 0;
        while (third == one || third == other) {
            third++;
        }
        for (int l = 0, spare = 0; l < 16; l++) {
            if (l == one) {
                x.lamp(0, 1, 2);
                x.level(l, 1);
            } else if (l == other || l == third) {
                x.lamp(2, l == other ? 3 : 4, 1);
                x.level(l, l == other ? 1 : 3);
            } else {
                // Lamps that no way leads over, between wires that the three do not join.
                x.lamp(3 + spare / 5, (4 + spare / 5 + spare % 5) % 6, 1);
                x.hurt(l, 1);
                spare++;
            }
        }
        return x;
    }

    private static void uneven(Sentences s) {
        s.of("Promise 19");
        LampWires x = s.says("Of LAMPS of one LEVEL above 0 two whose LIGHT in PLAN is farthest apart: how far: "
            + "0 the numerator, 1 the denominator");
        grid(x);
        // Lamp 0 glows alone, lamps 1 and 3 together: level 15 is 15 for the one, 15 by 2 for the others.
        x.level(0, 15);
        x.level(1, 15);
        x.level(3, 15);
        s.due(x.uneven(0), 15);
        s.due(x.uneven(1), 2);
        x.level(0, 14);
        x.level(1, 14);
        x.level(3, 14);
        s.due(x.uneven(0), 7);
        s.due(x.uneven(1), 1);
        x.level(0, 1);
        x.level(1, 1);
        x.level(3, 1);
        s.due(x.uneven(0), 1);
        s.due(x.uneven(1), 2);
        for (int one = 0; one < 16; one++) {
            for (int other = 0; other < 16; other++) {
                if (one != other) {
                    x = twoOfOneLevel(one, other);
                    s.due(x.light(one, 1), 1);
                    s.due(x.light(other, 1), 2);
                    s.due(x.uneven(0), 1);
                    s.due(x.uneven(1), 2);
                }
            }
        }
        x = s.says("(0 by 1: there are no two)");
        s.due(x.uneven(0), 0);
        s.due(x.uneven(1), 1);
        grid(x);
        // No level is above 0.
        s.due(x.uneven(0), 0);
        s.due(x.uneven(1), 1);
        x.level(0, 1);
        s.due(x.uneven(0), 0);
        s.due(x.uneven(1), 1);
        // Unlike levels are not compared, nor those of level 0 with others.
        x.level(1, 2);
        x.level(2, 4);
        s.due(x.uneven(0), 0);
        s.due(x.uneven(1), 1);
        LampWires y = s.says("BAD");
        s.each(-1, y::uneven, LEAST, -1, 2, MOST);
        grid(y);
        y.hurt(0, 1);
        y.level(0, 1);
        s.each(-1, y::uneven, LEAST, -1, 2, MOST);
        x = s.says("NONE.");
        grid(x);
        x.hurt(3, 2);
        x.level(3, 8);
        s.due(x.uneven(0), -4);
        s.due(x.uneven(1), -4);
        x.level(3, 0);
        s.due(x.uneven(0), 0);
    }
}
