/** Promises 20 to 27: feed, end, program, fault, line, round, shows, at. */
final class EdgesOfPrograms {
    private static final int LEAST = Integer.MIN_VALUE;
    private static final int MOST = Integer.MAX_VALUE;
    private static final long BLANKS = 0x2020202020202020L;

    static void look(Sentences s) {
        feed(s);
        end(s);
        program(s);
        fault(s);
        line(s);
        round(s);
        shows(s);
        at(s);
    }

    private static void feed(Sentences s) {
        s.of("Promise 20");
        LampWires x = s.says("Eight bytes come behind THE TAPE, the highest first: how many it has.");
        // "dark 12;" and "dark 34;"
        s.due(x.feed(0x6461726b2031323bL), 8);
        s.due(x.feed(0x6461726b2033343bL), 16);
        s.due(x.program(), 2);
        s.due(x.line(0, 1), 12);
        s.due(x.line(1, 1), 34);
        s.due(x.feed(BLANKS), 8);
        s.due(x.feed(-1L), 16);
        s.due(x.program(), -18);
        s.due(x.feed(0x20ffL), 8);
        s.due(x.program(), -10);
        s.due(x.feed(Long.MIN_VALUE), 8);
        s.due(x.end(3), 8);
        s.due(x.feed(BLANKS), 11);
        x = s.says("FULL: more than 200.");
        for (int i = 1; i <= 25; i++) {
            s.due(x.feed(BLANKS), 8 * i);
        }
        s.due(x.feed(BLANKS), -3);
        for (int n = 199; n >= 193; n--) {
            s.due(x.end(n), n + 1);
            s.due(x.feed(BLANKS), -3);
            s.due(x.count(8), n);
        }
        s.due(x.end(192), 193);
        s.due(x.feed(BLANKS), 200);
    }

    private static void end(Sentences s) {
        s.of("Promise 21");
        LampWires x = s.says("THE TAPE keeps its first n bytes: how many it had.");
        s.due(x.end(0), 0);
        x.feed(0x6461726b2031323bL);
        x.feed(0x6461726b2033343bL);
        s.due(x.end(16), 16);
        s.due(x.end(8), 16);
        s.due(x.count(8), 8);
        s.due(x.program(), 1);
        s.due(x.line(0, 1), 12);
        x.feed(BLANKS);
        s.due(x.end(0), 8);
        s.due(x.program(), 0);
        for (int i = 0; i < 25; i++) {
            x.feed(BLANKS);
        }
        s.due(x.end(200), 200);
        s.due(x.end(199), 200);
        LampWires y = s.says("BAD.");
        s.each(-1, y::end, LEAST, -1, 1, 200, MOST);
        y.feed(BLANKS);
        s.each(-1, y::end, LEAST, -1, 9, 200, 201, MOST);
        s.due(y.count(8), 8);
    }

    private static void program(Sentences s) {
        s.of("Promise 22");
        LampWires x = s.says("THE TAPE (empty then) tells THE PROGRAM: how many lines");
        s.due(x.program(), 0);
        Check.text(x, "dark 1;".repeat(12));
        s.due(x.program(), 12);
        s.due(x.count(8), 0);
        s.due(x.count(5), 12);
        s.due(x.program(), 0);
        s.due(x.count(5), 0);
        x = s.says("-10 less the place of its FAULT");
        Check.text(x, "?");
        s.due(x.program(), -10);
        Check.text(x, " ".repeat(199) + "?");
        s.due(x.program(), -209);
        Check.text(x, "dark" + " ".repeat(196));
        s.due(x.program(), -210);
        s.due(x.count(8), 0);
        x = s.says("that which was told stays.");
        x.lamp(0, 1, 1);
        Check.tell(x, "high 0 low 1 for 2;dark 3;");
        x.seen(0, 1);
        s.due(Check.tell(x, "dark 7;dark 7;dark 7;dark 7"), -37);
        s.due(x.count(5), 2);
        s.due(x.line(0, 0), Sentences.turn("+-.."));
        s.due(x.line(0, 1), 2);
        s.due(x.line(1, 1), 3);
        s.due(x.line(0, 4), 1);
        s.due(x.round(0), 5);
    }

    private static void fault(Sentences s) {
        s.of("Promise 23");
        LampWires x = s.says("The FAULT of the latest program()");
        String[] texts = {"?", "dark", "dark 0;", "high 0 0", "dark 1;".repeat(13)};
        for (int i = 0; i < texts.length; i++) {
            Check.tell(x, texts[i]);
            s.due(x.fault(), i + 1);
            s.due(x.fault(), i + 1);
        }
        x.wires(2);
        x.feed(0);
        x.end(0);
        s.due(x.fault(), 5);
        x = s.says("0.");
        s.due(x.fault(), 0);
        Check.tell(x, "?");
        Check.tell(x, "dark 1;");
        s.due(x.fault(), 0);
        Check.tell(x, "?");
        s.due(x.program(), 0);
        s.due(x.fault(), 0);
    }

    private static void line(Sentences s) {
        s.of("Promise 24");
        LampWires x = s.says("Of a LINE: 0 its TURN, 1 ticks, 2 the tick of a ROUND in which it begins");
        x.wires(6);
        Check.tell(x, "high 0 1 2 low 3 4 5 for 60;high 5 low 0 for 1;" + "dark 60;".repeat(10));
        s.due(x.line(0, 0), Sentences.turn("+++---"));
        s.due(x.line(1, 0), Sentences.turn("-....+"));
        s.due(x.line(11, 0), 0);
        s.due(x.line(0, 1), 60);
        s.due(x.line(1, 1), 1);
        s.due(x.line(0, 2), 0);
        s.due(x.line(1, 2), 60);
        s.due(x.line(2, 2), 61);
        s.due(x.line(11, 2), 601);
        x = s.says("3 LAMPS that GLOW (bits)");
        x.lamp(0, 1, 1);
        x.lamp(0, 2, 1);
        Check.tell(x, "high 0 low 1 2 for 1;dark 1;");
        s.due(x.line(0, 3), 3);
        s.due(x.line(1, 3), 0);
        x.hurt(1, 1);
        s.due(x.line(0, 3), 1);
        x.hurt(1, 2);
        s.due(x.line(0, 3), 0);
        x.hurt(1, 0);
        x.lamp(0, 3, 1);
        s.due(x.line(0, 3), 3);
        x = s.says("4 what is SEEN (NONE: nothing is told).");
        x.lamp(0, 1, 1);
        Check.tell(x, "dark 1;");
        s.due(x.line(0, 4), -4);
        x.seen(0, 0);
        s.due(x.line(0, 4), 0);
        x.seen(0, 1);
        s.due(x.line(0, 4), 1);
        x.seen(0, -4);
        s.due(x.line(0, 4), -4);
        LampWires y = s.says("BAD.");
        s.due(y.line(0, 0), -1);
        Check.tell(y, "dark 1;".repeat(12));
        s.each(-1, k -> y.line(k, 0), LEAST, -1, 12, 13, MOST);
        s.each(-1, what -> y.line(0, what), LEAST, -1, 5, MOST);
        Check.tell(y, "dark 1;");
        s.due(y.line(1, 0), -1);
    }

    private static void round(Sentences s) {
        s.of("Promise 25");
        LampWires x = s.says("ROUND (what 0)");
        s.due(x.round(0), 0);
        Check.tell(x, "dark 60;".repeat(12));
        s.due(x.round(0), 720);
        x.wires(4);
        s.due(x.round(0), 0);
        x = s.says("LAMPS that GLOW in any LINE (1, bits)");
        x.lamp(0, 1, 1);
        x.lamp(2, 3, 1);
        s.due(x.round(1), 0);
        Check.tell(x, "dark 1;");
        s.due(x.round(1), 0);
        Check.tell(x, "dark 1;high 0 low 1 for 1;high 2 low 3 for 1;");
        s.due(x.round(1), 3);
        Check.tell(x, "high 0 low 1 for 1;high 2 low 3 for 1;dark 1;");
        s.due(x.round(1), 3);
        Check.tell(x, "dark 1;".repeat(11) + "high 2 low 3 for 1;");
        s.due(x.round(1), 2);
        x = s.says("in all LINES (2, bits; no lines: none)");
        x.lamp(0, 1, 1);
        x.lamp(2, 3, 1);
        s.due(x.round(2), 0);
        Check.tell(x, "high 0 2 low 1 3 for 1;");
        s.due(x.round(2), 3);
        Check.tell(x, "high 0 2 low 1 3 for 1;high 2 low 3 for 1;");
        s.due(x.round(2), 2);
        Check.tell(x, "high 2 low 3 for 1;high 0 2 low 1 3 for 1;");
        s.due(x.round(2), 2);
        Check.tell(x, "high 0 2 low 1 3 for 1;high 2 low 3 for 1;dark 1;");
        s.due(x.round(2), 0);
        Check.tell(x, "");
        s.due(x.round(2), 0);
        x = s.says("LINES that are SHORTS (3).");
        x.lamp(0, 1, 1);
        s.due(x.round(3), 0);
        Check.tell(x, "high 0 low 1 for 9;high 1 low 0 for 9;dark 1;");
        s.due(x.round(3), 0);
        x.hurt(0, 2);
        s.due(x.round(3), 2);
        Check.tell(x, "high0low1for9;".repeat(12));
        s.due(x.round(3), 12);
        s.due(x.round(2), 0);
        x.hurt(0, 0);
        s.due(x.round(3), 0);
        s.due(x.round(2), 1);
        LampWires y = s.says("BAD.");
        s.each(-1, y::round, LEAST, -1, 4, MOST);
    }

    private static void shows(Sentences s) {
        s.of("Promise 26");
        LampWires x = s.says("Of a LAMP: ticks of a ROUND in which it GLOWS (what 0)");
        x.lamp(0, 1, 1);
        s.due(x.shows(0, 0), 0);
        Check.tell(x, "high0low1for60;".repeat(12));
        s.due(x.shows(0, 0), 720);
        Check.tell(x, "dark 1;");
        s.due(x.shows(0, 0), 0);
        x = s.says("DARK (1)");
        x.lamp(0, 1, 1);
        s.due(x.shows(0, 1), -4);
        Check.tell(x, "high 0 low 1 for 1;");
        s.due(x.shows(0, 1), 0);
        Check.tell(x, "dark 1;high 0 low 1 for 1;dark 1;");
        s.due(x.shows(0, 1), 2);
        Check.tell(x, "high 0 low 1 for 1;dark 60;dark 60;high 0 low 1 for 1;");
        s.due(x.shows(0, 1), 120);
        x = s.says("LIGHT in a ROUND: 2 the numerator, 3 the denominator.");
        x.lamp(0, 1, 1);
        s.due(x.shows(0, 2), 0);
        s.due(x.shows(0, 3), 1);
        Check.tell(x, "high0low1for60;".repeat(12));
        s.due(x.shows(0, 2), 720);
        s.due(x.shows(0, 3), 1);
        x.lamp(0, 2, 1);
        x.lamp(0, 3, 1);
        Check.tell(x, "high 0 low 1 for 1;high 0 low 1 2 for 1;high 0 low 1 2 3 for 1;");
        s.due(x.shows(0, 2), 11);
        s.due(x.shows(0, 3), 6);
        s.due(x.shows(2, 2), 1);
        s.due(x.shows(2, 3), 3);
        LampWires y = s.says("BAD.");
        s.due(y.shows(0, 0), -1);
        y.lamp(0, 1, 1);
        s.each(-1, what -> y.shows(0, what), LEAST, -1, 4, MOST);
        s.each(-1, l -> y.shows(l, 0), LEAST, -1, 1, 16, MOST);
    }

    private static void at(Sentences s) {
        s.of("Promise 27");
        LampWires x = s.says("LAMPS that GLOW in tick t (0 to 9999) from the beginning of the first ROUND on (bits).");
        x.lamp(0, 1, 1);
        x.lamp(2, 3, 1);
        Check.tell(x, "high 0 low 1 for 5;high 2 low 3 for 5;");
        s.due(x.at(0), 1);
        s.due(x.at(4), 1);
        s.due(x.at(5), 2);
        s.due(x.at(9), 2);
        s.due(x.at(10), 1);
        s.due(x.at(9994), 1);
        s.due(x.at(9999), 2);
        // 9999 is tick 639 of the fourteenth round of 720: the eleventh line.
        Check.tell(x, "dark 60;".repeat(10) + "high 0 low 1 for 60;dark 60;");
        s.due(x.at(9999), 1);
        s.due(x.at(600), 1);
        s.due(x.at(599), 0);
        s.due(x.at(659), 1);
        s.due(x.at(660), 0);
        LampWires y = s.says("BAD");
        s.each(-1, y::at, LEAST, -1, 10000, MOST);
        Check.tell(y, "dark 1;");
        s.each(-1, y::at, LEAST, -1, 10000, MOST);
        x = s.says("STATE: there are no lines.");
        s.due(x.at(0), -2);
        s.due(x.at(9999), -2);
        Check.tell(x, "dark 1;");
        s.due(x.at(0), 0);
        Check.tell(x, "");
        s.due(x.at(0), -2);
        Check.tell(x, "dark 1;");
        x.wires(4);
        s.due(x.at(0), -2);
    }
}
