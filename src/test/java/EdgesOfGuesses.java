/** Promises 28 to 31: seen, likely, tells, would. */
final class EdgesOfGuesses {
    private static final int LEAST = Integer.MIN_VALUE;
    private static final int MOST = Integer.MAX_VALUE;

    static void look(Sentences s) {
        seen(s);
        likely(s);
        likelyFaults(s);
        tells(s);
        would(s);
    }

    /** Two lamps that have nothing to do with each other, each seen in a line of its own. */
    private static void pair(LampWires x) {
        x.lamp(0, 1, 1);
        x.lamp(2, 3, 1);
        Check.tell(x, "high 0 low 1 for 1;high 2 low 3 for 1;");
    }

    private static void seen(Sentences s) {
        s.of("Promise 28");
        LampWires x = s.says("What is SEEN in a LINE: bits of LAMPS");
        x.wires(6);
        for (int i = 0; i < 8; i++) {
            x.lamp(i / 2, 4 + i % 2, 1);
            x.lamp(4 + i % 2, i / 2, 1);
        }
        Check.tell(x, "dark 1;".repeat(12));
        s.due(x.seen(11, 65535), -4);
        s.due(x.line(11, 4), 65535);
        s.due(x.seen(11, 65536), -10);
        s.due(x.seen(0, 0), -4);
        s.due(x.line(0, 4), 0);
        s.due(x.count(6), 2);
        x = s.says("(NONE: nothing is told any more)");
        pair(x);
        x.seen(0, 0);
        x.seen(1, 3);
        s.due(x.seen(0, -4), 0);
        s.due(x.count(6), 1);
        s.due(x.line(0, 4), -4);
        s.due(x.seen(0, -4), -4);
        s.due(x.count(6), 1);
        x = s.says("what was told (NONE).");
        pair(x);
        s.due(x.seen(0, 3), -4);
        s.due(x.seen(0, 0), 3);
        s.due(x.seen(0, 0), 0);
        s.due(x.seen(0, -4), 0);
        s.due(x.seen(0, 1), -4);
        LampWires y = s.says("BAD -10.");
        s.due(y.seen(0, 0), -10);
        s.due(y.seen(0, -4), -10);
        pair(y);
        y.seen(0, 2);
        s.each(-10, k -> y.seen(k, 0), LEAST, -1, 2, 12, MOST);
        s.each(-10, k -> y.seen(k, -4), LEAST, -1, 2, 12, MOST);
        s.each(-10, lamps -> y.seen(0, lamps), LEAST, -5, -3, -2, -1, 4, 65536, MOST);
        s.due(y.line(0, 4), 2);
    }

    /** Two groups of four lamps: a short in a group, by any of them, makes its line dark. */
    private static void groups(LampWires x) {
        x.wires(6);
        for (int g = 0; g < 6; g += 3) {
            x.lamp(g, g + 2, 1);
            x.lamp(g + 1, g + 2, 1);
            x.lamp(g + 2, g, 1);
            x.lamp(g + 2, g + 1, 1);
        }
        Check.tell(x, "high 0 1 low 2 for 1;high 3 4 low 5 for 1;");
    }

    private static void likely(Sentences s) {
        s.of("Promise 29");
        LampWires x = s.says("LIKELY: what 0 how many FAULTS (NONE: no GUESS)");
        s.due(x.likely(0), 0);
        pair(x);
        s.due(x.likely(0), 0);
        x.seen(0, 0);
        s.due(x.likely(0), 1);
        x.seen(1, 0);
        s.due(x.likely(0), 2);
        x.seen(1, 1);
        s.due(x.likely(0), -4);
        x.seen(0, -4);
        x.seen(1, -4);
        s.due(x.likely(0), 0);
        x.seen(0, 0);
        s.due(x.likely(0), 1);
        Check.tell(x, "high 0 low 1 for 1;");
        s.due(x.likely(0), 0);
        x.seen(0, 0);
        s.due(x.likely(1), 2);
        // Behind a lamp that leads back a short fits, too.
        x.lamp(1, 0, 1);
        s.due(x.likely(1), 3);
        Check.tell(x, "high0low1for9;".repeat(12));
        for (int k = 0; k < 12; k++) {
            x.seen(k, 0);
        }
        s.due(x.likely(0), 1);
        x.seen(11, 1);
        s.due(x.likely(0), -4);
        x = s.says("1 how many GUESSES");
        s.due(x.likely(1), 1);
        groups(x);
        s.due(x.likely(1), 1);
        x.seen(0, 0);
        s.due(x.likely(1), 4);
        x.seen(1, 0);
        s.due(x.likely(1), 16);
        x.seen(1, 1);
        s.due(x.likely(1), 0);
    }

    private static void likelyFaults(Sentences s) {
        LampWires y = s.says("1000 and i: the first FAULT of GUESS i (NONE)");
        s.due(y.likely(1000), -4);
        groups(y);
        s.due(y.likely(1000), -4);
        y.seen(0, 0);
        s.each(1, i -> y.likely(1000 + i) - 2 * i, 0, 1, 2, 3);
        y.seen(1, 0);
        for (int i = 0; i < 16; i++) {
            s.due(y.likely(1000 + i), 2 * (i / 4) + 1);
        }
        LampWires z = s.says("2000 and i: the second (NONE).");
        s.due(z.likely(2000), -4);
        groups(z);
        s.due(z.likely(2000), -4);
        z.seen(0, 0);
        s.each(-4, i -> z.likely(2000 + i), 0, 1, 2, 3);
        z.seen(1, 0);
        for (int i = 0; i < 16; i++) {
            s.due(z.likely(2000 + i), 2 * (4 + i % 4) + 1);
        }
        LampWires w = s.says("BAD: also a GUESS that there is not.");
        s.each(-1, w::likely, LEAST, -1000, -1, 2, 999, 1001, 1999, 2001, 2999, 3000, MOST);
        groups(w);
        w.seen(0, 0);
        s.each(-1, w::likely, 1004, 2004);
        w.seen(1, 0);
        s.each(-1, w::likely, LEAST, -1, 2, 999, 1016, 1999, 2016, 2999, 3000, 3001, MOST);
        w.seen(1, 1);
        s.each(-1, w::likely, 1000, 2000);
    }

    private static void tells(Sentences s) {
        s.of("Promise 30");
        LampWires x = s.says("Single FAULTS that change what GLOWS in some LINE (what 0: how many; all else SOUND)");
        s.due(x.tells(0), 0);
        x.lamp(0, 1, 1);
        s.due(x.tells(0), 0);
        x.wires(4);
        pair(x);
        s.due(x.tells(0), 4);
        x.hurt(0, 1);
        x.hurt(1, 2);
        s.due(x.tells(0), 4);
        Check.tell(x, "high 0 low 1 for 1;");
        s.due(x.glow(Sentences.turn("+-.."), 0), 0);
        s.due(x.tells(0), 2);
        // A lamp that comes behind is one more that tells.
        x.lamp(1, 0, 1);
        s.due(x.tells(0), 3);
        Check.tell(x, "dark 1;".repeat(11) + "high 2 low 3 for 1;");
        s.due(x.tells(0), 2);
        x = s.says("the first that changes nothing in any (1; NONE).");
        s.due(x.tells(1), -4);
        x.lamp(0, 1, 1);
        s.due(x.tells(1), 0);
        x.wires(4);
        pair(x);
        s.due(x.tells(1), -4);
        Check.tell(x, "high 0 low 1 for 1;");
        s.due(x.tells(1), 2);
        Check.tell(x, "dark 1;");
        s.due(x.tells(1), 0);
        LampWires y = s.says("BAD.");
        s.each(-1, y::tells, LEAST, -1, 2, MOST);
    }

    private static void would(Sentences s) {
        s.of("Promise 31");
        LampWires x = s.says("What would GLOW in a TURN, if all LAMPS were SOUND but for FAULTS f, g (NONE: none).");
        s.due(x.would(80, -4, -4), 0);
        x.lamp(0, 1, 1);
        x.lamp(1, 2, 1);
        x.lamp(0, 2, 3);
        int turn = Sentences.turn("+.-.");
        s.due(x.would(turn, -4, -4), 3);
        s.due(x.would(turn, 0, -4), 4);
        s.due(x.would(turn, -4, 0), 4);
        s.due(x.would(turn, 1, -4), 2);
        s.due(x.would(turn, -4, 1), 2);
        s.due(x.would(turn, 1, 2), 4);
        s.due(x.would(turn, 2, 1), 4);
        s.due(x.would(turn, 1, 3), 0);
        s.due(x.would(turn, 0, 4), 0);
        s.due(x.would(turn, -4, 5), 0);
        x.hurt(0, 1);
        x.hurt(1, 2);
        s.due(x.would(turn, -4, -4), 3);
        s.due(x.lampOf(0, 3), 1);
        s.due(x.lampOf(1, 3), 2);
        LampWires y = s.says("BAD: also no such FAULT");
        s.due(y.would(0, 0, -4), -1);
        s.due(y.would(0, -4, 0), -1);
        pair(y);
        s.each(-1, f -> y.would(0, f, -4), LEAST, -5, -3, -2, -1, 4, 32, MOST);
        s.each(-1, g -> y.would(0, -4, g), LEAST, -5, -3, -2, -1, 4, 32, MOST);
        s.each(0, f -> y.would(0, f, -4), -4, 0, 1, 2, 3);
        s.each(-1, turn2 -> y.would(turn2, -4, -4), LEAST, -1, 81, MOST);
        s.due(y.would(80, -4, -4), 0);
        LampWires z = s.says("of one LAMP both.");
        pair(z);
        s.due(z.would(0, 0, 1), -1);
        s.due(z.would(0, 1, 0), -1);
        s.due(z.would(0, 2, 3), -1);
        s.each(-1, f -> z.would(0, f, f), 0, 1, 2, 3);
        s.due(z.would(0, 1, 2), 0);
        s.due(z.would(0, 3, 0), 0);
    }
}
