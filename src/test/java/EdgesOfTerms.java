/** The terms about wires, turns, pictures, levels, guesses and sheets. */
final class EdgesOfTerms {
    static void look(Sentences s) {
        s.of("Terms");
        wires(s);
        lamps(s);
        states(s);
        supply(s);
        turns(s);
        glowing(s);
        pictures(s);
        frames(s);
        levels(s);
        light(s);
        rounds(s);
        seen(s);
        guesses(s);
        likely(s);
        likelyOfSixteen(s);
        sheets(s);
        faultsOfSheets(s);
    }

    private static void wires(Sentences s) {
        LampWires x = s.says("WIRES: W (2 to 6; 4 at first), numbered from 0 on.");
        s.due(x.count(0), 4);
        s.due(x.wires(1), -1);
        s.due(x.wires(7), -1);
        s.due(x.count(0), 4);
        for (int w = 2; w <= 6; w++) {
            s.due(x.wires(w), w == 2 ? 4 : w - 1);
            s.due(x.lamp(0, w - 1, 1), 0);
            s.due(x.lamp(w - 1, 0, 1), 1);
            s.due(x.lamp(0, w, 1), -1);
            s.due(x.lamp(w, 0, 1), -1);
            s.due(x.lamp(-1, 0, 1), -1);
        }
    }

    private static void lamps(Sentences s) {
        LampWires x = s.says("LAMPS (16) are numbered as they come");
        x.wires(6);
        int made = 0;
        for (int from = 5; from >= 0; from--) {
            for (int to = 0; to < 6; to++) {
                if (from != to) {
                    s.due(x.lamp(from, to, 1), made < 16 ? made : -3);
                    made++;
                }
            }
        }
        s.due(x.lampOf(15, 0), 2);
        s.due(x.lampOf(16, 0), -1);
        x = s.says("from a WIRE to another one (one lamp at most from the one to the other)");
        s.due(x.lamp(2, 2, 1), -1);
        s.due(x.lamp(2, 3, 1), 0);
        s.due(x.lamp(2, 3, 2), -2);
        s.due(x.lamp(3, 2, 1), 1);
        s.due(x.lamp(3, 2, 1), -2);
        x = s.says("VOLTS (1 to 9)");
        s.due(x.lamp(0, 1, 0), -1);
        s.due(x.lamp(0, 1, 10), -1);
        s.due(x.lamp(0, 1, -1), -1);
        s.due(x.lamp(0, 1, 1), 0);
        s.due(x.lamp(1, 0, 9), 1);
        s.due(x.lampOf(0, 2), 1);
        s.due(x.lampOf(1, 2), 9);
    }

    private static void states(Sentences s) {
        LampWires x = s.says("SOUND, BROKEN (no way leads over it) or");
        x.lamp(0, 1, 2);
        s.due(x.lampOf(0, 3), 0);
        s.due(x.glow(Sentences.turn("+-.."), 0), 1);
        x.hurt(0, 1);
        s.due(x.glow(Sentences.turn("+-.."), 1), -4);
        s.due(x.glow(Sentences.turn("-+.."), 1), -4);
        x = s.says("SHORTED (ways lead over it in both ways, without VOLTS");
        x.lamp(0, 1, 2);
        x.lamp(1, 2, 3);
        x.hurt(0, 2);
        s.due(x.glow(Sentences.turn("+-.."), 1), 0);
        s.due(x.glow(Sentences.turn("-+.."), 1), 0);
        s.due(x.glow(Sentences.turn("+.-."), 1), 3);
        x.hurt(0, 0);
        x.hurt(1, 2);
        s.due(x.glow(Sentences.turn("+.-."), 1), 2);
        s.due(x.glow(Sentences.turn("-.+."), 1), -4);
        x.hurt(1, 0);
        x.hurt(0, 2);
        x.lamp(0, 3, 4);
        s.due(x.glow(Sentences.turn(".+.-"), 1), 4);
        s.due(x.glow(Sentences.turn(".+.-"), 0), 4);
        x = s.says("; it never GLOWS)");
        x.lamp(0, 1, 2);
        x.lamp(1, 2, 3);
        x.hurt(0, 2);
        s.due(x.glow(Sentences.turn("+.-."), 0), 2);
        s.due(x.glow(Sentences.turn("+-.."), 0), 0);
        s.due(x.alone(0), -4);
        s.due(x.frame(1), -4);
    }

    private static void supply(Sentences s) {
        LampWires x = s.says("SUPPLY: 1 to 30 (5 at first).");
        s.due(x.count(2), 5);
        s.due(x.supply(0), -1);
        s.due(x.supply(31), -1);
        s.due(x.supply(1), 5);
        s.due(x.supply(30), 1);
        s.due(x.count(2), 30);
    }

    private static void turns(Sentences s) {
        LampWires x = s.says("A TURN: each WIRE is free (0), high (1) or low (2), as figures to the base 3, "
            + "WIRE 0 the lowest.");
        x.wires(6);
        int power = 1;
        for (int w = 0; w < 5; w++) {
            x.lamp(w, w + 1, 1);
            s.due(x.glow(power + 2 * 3 * power, 0), 1 << w);
            s.due(x.glow(2 * power + 3 * power, 0), 0);
            s.due(x.glow(power, 1), -4);
            power *= 3;
        }
        s.due(x.glow(0, 1), -4);
        s.due(x.glow(728, 1), -4);
        x = s.says("A WAY leads from a high WIRE over LAMPS (from their first to their second WIRE) and free WIRES alone "
            + "to a low one.");
        x.lamp(0, 1, 1);
        x.lamp(1, 2, 1);
        s.due(x.glow(Sentences.turn("+.-."), 1), 2);
        s.due(x.glow(Sentences.turn("-.+."), 1), -4);
        s.due(x.glow(Sentences.turn("++-."), 0), 2);
        s.due(x.glow(Sentences.turn("+--."), 0), 1);
        s.due(x.glow(Sentences.turn("+.+."), 1), -4);
        s.due(x.glow(Sentences.turn("-.-."), 1), -4);
        s.due(x.glow(Sentences.turn("+..."), 1), -4);
        s.due(x.glow(Sentences.turn("..-."), 1), -4);
        // A way that each wire begins, passes or ends.
        for (int w = 0; w < 4; w++) {
            x.wires(4);
            x.lamp(w, (w + 1) % 4, 1);
            x.lamp((w + 1) % 4, (w + 2) % 4, 1);
            int[] powers = {1, 3, 9, 27};
            s.due(x.glow(powers[w] + 2 * powers[(w + 2) % 4], 0), 3);
            s.due(x.glow(powers[w], 1), -4);
            s.due(x.glow(2 * powers[(w + 2) % 4], 1), -4);
        }
    }

    private static void glowing(Sentences s) {
        LampWires x = s.says("LEAST of a TURN: the least sum of VOLTS of a WAY.");
        x.wires(6);
        for (int w = 0; w < 5; w++) {
            x.lamp(w, w + 1, 9);
        }
        s.due(x.glow(Sentences.turn("+....-"), 1), 45);
        x.lamp(1, 4, 8);
        s.due(x.glow(Sentences.turn("+....-"), 1), 26);
        x.lamp(0, 5, 9);
        s.due(x.glow(Sentences.turn("+....-"), 1), 9);
        x = s.says("All SOUND LAMPS that are on a WAY with that sum GLOW, if LEAST is 1 at least and SUPPLY at most; "
            + "else none does.");
        x.lamp(0, 1, 1);
        x.lamp(1, 2, 3);
        x.lamp(0, 2, 4);
        x.supply(4);
        s.due(x.glow(Sentences.turn("+.-."), 0), 7);
        x.supply(3);
        s.due(x.glow(Sentences.turn("+.-."), 0), 0);
        s.due(x.glow(Sentences.turn("+.-."), 1), 4);
        x.supply(1);
        s.due(x.glow(Sentences.turn("+-.."), 0), 1);
        x.hurt(0, 2);
        s.due(x.glow(Sentences.turn("+-.."), 0), 0);
        x = s.says("A SHORT: LEAST is 0.");
        x.lamp(0, 1, 1);
        x.lamp(1, 0, 1);
        x.lamp(0, 2, 1);
        s.due(x.turns(0), 0);
        x.hurt(1, 2);
        s.due(x.glow(Sentences.turn("+--."), 1), 0);
        s.due(x.glow(Sentences.turn("+--."), 0), 0);
        x.wires(6);
        for (int w = 0; w < 5; w++) {
            x.lamp(w + 1, w, 9);
            x.hurt(w, 2);
        }
        s.due(x.glow(Sentences.turn("+....-"), 1), 0);
    }

    private static void pictures(Sentences s) {
        LampWires x = s.says("PICTURES are LAMPS (bits).");
        x.wires(6);
        for (int i = 0; i < 16; i++) {
            x.lamp(i % 3, 3 + i / 3 % 3, 1);
            x.lamp(3 + i % 3, i / 3 % 3, 1);
        }
        for (int l = 0; l < 16; l++) {
            s.due(x.frame(1 << l), 1);
        }
        s.due(x.frame(1 << 16), -1);
        x = s.says("A TURN SUITS a PICTURE, if some LAMP GLOWS and all that GLOW are in it.");
        x.lamp(0, 1, 1);
        x.lamp(1, 2, 1);
        x.lamp(0, 2, 2);
        // Lamp 2 never glows without the two others.
        s.due(x.frame(4), -4);
        s.due(x.frame(5), -4);
        s.due(x.frame(6), -4);
        s.due(x.frame(7), 1);
        s.due(x.frame(3), 2);
    }

    /** Lamps from wires 0, 1 to wires 2, 3. */
    private static void grid(LampWires x) {
        x.lamp(0, 2, 1);
        x.lamp(0, 3, 1);
        x.lamp(1, 2, 1);
        x.lamp(1, 3, 1);
    }

    private static void frames(Sentences s) {
        LampWires x = s.says("FRAME of a PICTURE: TURNS that SUIT it so that each of its LAMPS GLOWS in one of them: "
            + "the fewest");
        grid(x);
        s.due(x.frame(1), 1);
        s.due(x.frame(3), 1);
        s.due(x.frame(6), 2);
        s.due(x.frame(7), 2);
        s.due(x.frame(9), 2);
        s.due(x.frame(15), 1);
        // What was found for wider pictures does not serve narrower ones.
        x.wires(4);
        grid(x);
        for (int picture = 15; picture >= 0; picture--) {
            boolean whole = picture == 3 || picture == 5 || picture == 10 || picture == 12 || picture == 15;
            int lamps = Integer.bitCount(picture);
            s.due(x.frame(picture), whole ? 1 : Math.min(lamps, 2));
        }
        x = s.says("taken one by one: for the least LAMP that does not GLOW in one taken already the least TURN in which it "
            + "GLOWS and with which the fewest can still be had.");
        grid(x);
        // Lamp 0 alone is less than lamps 0 and 2, but would leave two turns more.
        s.due(x.frameTurn(7, 0), Sentences.turn("++-."));
        s.due(x.frameTurn(7, 1), Sentences.turn("+..-"));
        s.due(x.frameTurn(11, 0), Sentences.turn("+.-."));
        s.due(x.frameTurn(11, 1), Sentences.turn("++.-"));
        s.due(x.frameTurn(15, 0), Sentences.turn("++--"));
        s.due(x.frameTurn(6, 0), Sentences.turn("+..-"));
        s.due(x.frameTurn(6, 1), Sentences.turn(".+-."));
        x = s.says("(A PICTURE of no LAMPS: no TURNS.)");
        s.due(x.frame(0), 0);
        s.due(x.frameTurn(0, 0), -4);
        grid(x);
        s.due(x.frame(0), 0);
        s.due(x.frameTurn(0, 0), -4);
    }

    private static void levels(Sentences s) {
        LampWires x = s.says("LEVELS: 0 to 15 of each LAMP (0 at first).");
        grid(x);
        s.due(x.lampOf(3, 4), 0);
        s.due(x.level(3, 16), -1);
        s.due(x.level(3, -1), -1);
        s.due(x.level(3, 15), 0);
        s.due(x.level(3, 0), 15);
        s.due(x.count(7), 0);
        x = s.says("PLAN: PLANES 0 to 3: PLANE p is the PICTURE of LAMPS whose LEVEL has bit p");
        grid(x);
        for (int p = 0; p < 4; p++) {
            x.level(0, 1 << p);
            x.level(3, 1 << p);
            for (int q = 0; q < 4; q++) {
                s.due(x.plan(10 + q), q == p ? 2 : 0);
            }
        }
        s.due(x.plan(14), -1);
        s.due(x.plan(9), -1);
        x = s.says("its FRAME, each TURN for 2 to the p ticks; the ticks of all are its SPAN.");
        grid(x);
        s.due(x.plan(0), 0);
        for (int v = 1; v <= 15; v++) {
            x.level(0, v);
            x.level(3, v);
            s.due(x.plan(0), 2 * v);
        }
    }

    /** Lamps from each wire to each later one, so long that all of them can glow at once: fifteen. */
    private static void ladder(LampWires x) {
        x.wires(6);
        for (int from = 0; from < 6; from++) {
            for (int to = from + 1; to < 6; to++) {
                x.lamp(from, to, to - from);
            }
        }
    }

    private static void light(Sentences s) {
        s.says("LIGHT of a LAMP in a tick of a TURN in which k GLOW and it does: one by k.");
        for (int k = 1; k <= 15; k++) {
            LampWires x = new LampWires();
            ladder(x);
            Check.tell(x, "high 0 low 5 for 1;");
            s.due(x.line(0, 3), 32767);
            // A row of five lamps, or fewer, is left, and of the others as many as are wanted.
            int row = Math.min(k, 5);
            int others = k - row;
            for (int l = 0; l < 15; l++) {
                int from = x.lampOf(l, 0);
                int to = x.lampOf(l, 1);
                boolean inRow = to == from + 1 && to < row || from == row - 1 && to == 5;
                if (!inRow) {
                    x.hurt(l, others > 0 ? 0 : 1);
                    others--;
                }
            }
            int last = x.between(row - 1, 5);
            s.due(x.glow(Sentences.turn("+....-"), 2), k);
            s.due(x.shows(last, 2), 1);
            s.due(x.shows(last, 3), k);
        }
    }

    private static void rounds(Sentences s) {
        LampWires x = s.says("A PROGRAM: its lines are done one behind another, again and again");
        x.lamp(0, 1, 1);
        Check.tell(x, "high 0 low 1 for 2;dark 1;");
        for (int t = 0; t < 12; t++) {
            s.due(x.at(t), t % 3 == 2 ? 0 : 1);
        }
        x = s.says("ROUND: the ticks of all.");
        s.due(x.round(0), 0);
        Check.tell(x, "dark 1;");
        s.due(x.round(0), 1);
        Check.tell(x, "dark 60;".repeat(12));
        s.due(x.round(0), 720);
        x = s.says("(dark: TURN 0.)");
        Check.tell(x, "high 0 low 1 for 1;dark 2;");
        s.due(x.line(1, 0), 0);
        x = s.says("DARK of a LAMP: the most ticks one behind another (round the end, too) in which it does not GLOW");
        x.lamp(0, 1, 1);
        Check.tell(x, "dark 3;high 0 low 1 for 1;dark 5;high 0 low 1 for 1;dark 4;");
        s.due(x.shows(0, 1), 7);
        Check.tell(x, "dark 9;high 0 low 1 for 1;");
        s.due(x.shows(0, 1), 9);
        Check.tell(x, "high 0 low 1 for 1;dark 9;");
        s.due(x.shows(0, 1), 9);
        Check.tell(x, "dark 3;high 0 low 1 for 1;dark 8;high 0 low 1 for 1;dark 4;");
        s.due(x.shows(0, 1), 8);
        Check.tell(x, "dark 60;".repeat(6) + "high 0 low 1 for 1;" + "dark 60;".repeat(5));
        s.due(x.shows(0, 1), 660);
        Check.tell(x, "high 0 low 1 for 1;");
        s.due(x.shows(0, 1), 0);
        x = s.says("NONE, if it never GLOWS.");
        x.lamp(0, 1, 1);
        s.due(x.shows(0, 1), -4);
        Check.tell(x, "dark 9;high 1 low 0 for 4;");
        s.due(x.shows(0, 1), -4);
    }

    private static void seen(Sentences s) {
        LampWires x = s.says("SEEN: what GLOWS in LINES (told by hand, LINE by LINE");
        x.lamp(0, 1, 1);
        Check.tell(x, "dark 1;dark 2;");
        x.seen(1, 1);
        s.due(x.line(0, 4), -4);
        s.due(x.line(1, 4), 1);
        s.due(x.line(1, 3), 0);
        x = s.says("nothing is told at first and when a PROGRAM is told)");
        s.due(x.count(6), 0);
        Check.tell(x, "dark 1;dark 2;");
        s.due(x.count(6), 0);
        x.seen(0, 0);
        x.seen(1, 0);
        Check.tell(x, "dark");
        s.due(x.count(6), 2);
        Check.tell(x, "dark 1;dark 2;");
        s.due(x.count(6), 0);
        s.due(x.line(0, 4), -4);
        s.due(x.line(1, 4), -4);
    }

    private static void guesses(Sentences s) {
        LampWires x = s.says("FAULTS of LAMPS by numbers: 2 l: LAMP l is BROKEN, 2 l and 1: it is SHORTED.");
        x.wires(6);
        for (int w = 0; w < 5; w++) {
            x.lamp(w, w + 1, 1);
        }
        for (int l = 0; l < 5; l++) {
            s.due(x.would(Sentences.turn("+....-"), 2 * l, -4), 0);
            s.due(x.would(Sentences.turn("+....-"), 2 * l + 1, -4), 31 - (1 << l));
        }
        s.due(x.would(Sentences.turn("+....-"), 10, -4), -1);
        x = s.says("A GUESS: no FAULT, one, or two of unlike LAMPS (the less first), all other LAMPS SOUND.");
        x.lamp(0, 1, 1);
        x.lamp(2, 3, 1);
        Check.tell(x, "high 0 low 1 for 1;high 2 low 3 for 1;");
        x.hurt(0, 1);
        s.due(x.likely(0), 0);
        x.seen(0, 0);
        s.due(x.likely(0), 1);
        x.seen(1, 0);
        s.due(x.likely(0), 2);
        s.due(x.likely(1), 4);
        for (int i = 0; i < 4; i++) {
            s.due(x.likely(1000 + i), i / 2);
            s.due(x.likely(2000 + i), 2 + i % 2);
        }
    }

    private static void likely(Sentences s) {
        LampWires x = s.says("LIKELY: the GUESSES with the fewest FAULTS by which all LINES that are SEEN GLOW as told");
        x.lamp(0, 1, 1);
        x.lamp(2, 3, 1);
        Check.tell(x, "high 0 low 1 for 1;high 2 low 3 for 1;");
        s.due(x.likely(1), 1);
        x.seen(0, 0);
        // That lamp 1 is hurt, too, would fit, but has more faults.
        s.due(x.likely(1), 2);
        x.seen(0, 2);
        s.due(x.likely(0), -4);
        s.due(x.likely(1), 0);
        x = s.says("in order of their first, then their second FAULT.");
        x.lamp(2, 3, 1);
        x.lamp(0, 1, 1);
        Check.tell(x, "high 0 low 1 for 1;high 2 low 3 for 1;");
        x.seen(0, 0);
        s.due(x.likely(1000), 2);
        s.due(x.likely(1001), 3);
        x.seen(1, 0);
        s.due(x.likely(1001), 0);
        s.due(x.likely(2001), 3);
        s.due(x.likely(1002), 1);
        s.due(x.likely(2002), 2);
    }

    /** The last two of sixteen lamps: faults 28 to 31. No other lamp leads straight between their wires. */
    private static void likelyOfSixteen(Sentences s) {
        LampWires x = s.says("in order of their first, then their second FAULT.");
        x.wires(6);
        int[] pairs = {1, 2, 3, 5, 6, 8, 9, 10, 12, 13, 15, 16, 17, 18};
        for (int pair : pairs) {
            x.lamp(pair / 6, pair % 6, 9);
        }
        x.lamp(0, 4, 1);
        x.lamp(1, 5, 1);
        s.due(x.count(1), 16);
        Check.tell(x, "high 0 low 4 for 1;high 1 low 5 for 1;");
        x.seen(0, 0);
        x.seen(1, 0);
        s.due(x.likely(1), 4);
        for (int i = 0; i < 4; i++) {
            s.due(x.likely(1000 + i), 28 + i / 2);
            s.due(x.likely(2000 + i), 30 + i % 2);
        }
    }

    private static void sheets(Sentences s) {
        LampWires x = s.says("SHEETS 0 to 3 are");
        s.each(1, k -> x.sheet(k, 0, 1), 0, 1, 2, 3);
        s.each(-1, k -> x.sheet(k, 0, 1), Integer.MIN_VALUE, -1, 4, Integer.MAX_VALUE);
        LampWires y = s.says("rows of BYTES (lane 0), SHORTS (1), INTS (2)");
        y.lamp(0, 1, 1);
        s.each(1, lane -> y.sheet(lane, lane, 1), 0, 1, 2);
        s.each(1, k -> y.lay(k, 0, 256), 0, 1, 2);
        s.due(y.levels(0, 0, 0), 0);
        s.due(y.levels(1, 1, 0), -20);
        s.each(1, k -> y.lay(k, 0, 65536), 1, 2);
        s.due(y.levels(1, 1, 0), 0);
        s.due(y.levels(2, 2, 0), -20);
        LampWires z = s.says("with 0 to 40 CELLS");
        s.each(1, n -> z.sheet(0, 0, n), 0, 1, 40);
        s.due(z.sheet(0, 0, 41), -1);
        s.due(z.sheet(0, 0, -1), -14);
        s.due(z.count(9), 40);
        s.due(z.lay(0, 39, 1), 1);
        s.due(z.lay(0, 40, 1), -12);
        LampWires w = s.says("or nothing (at first).");
        s.due(w.count(9), -4);
        s.each(-11, k -> w.lay(k, 0, 0), 0, 1, 2, 3);
    }

    private static void faultsOfSheets(Sentences s) {
        LampWires x = s.says("A FAULT is what the machine finds: 1 NULL (nothing)");
        s.due(x.lay(0, 0, 0), -11);
        s.due(x.levels(0, 0, 0), -11);
        x = s.says("2 INDEX");
        x.sheet(0, 0, 0);
        s.due(x.lay(0, 0, 0), -12);
        x.lamp(0, 1, 1);
        s.due(x.levels(0, 0, 0), -12);
        LampWires y = s.says("3 CAST (another lane)");
        for (int k = 0; k < 3; k++) {
            y.sheet(k, k, 1);
            s.due(y.levels(k, k, 0), 0);
            s.due(y.levels(k, (k + 1) % 3, 0), -13);
            s.due(y.levels(k, (k + 2) % 3, 0), -13);
        }
        LampWires z = s.says("4 SIZE (below 0)");
        s.each(-14, n -> z.sheet(0, 0, n), -1, Integer.MIN_VALUE);
        s.due(z.count(9), -4);
        s.due(z.sheet(0, 0, 0), 1);
    }
}
