/** Promises 32 to 35: sheet, lay, levels, count. */
final class EdgesOfSheets {
    private static final int LEAST = Integer.MIN_VALUE;
    private static final int MOST = Integer.MAX_VALUE;

    static void look(Sentences s) {
        sheet(s);
        lay(s);
        laneBits(s);
        levels(s);
        levelsFaults(s);
        count(s);
    }

    private static void sheet(Sentences s) {
        s.of("Promise 32");
        LampWires x = s.says("A SHEET is a new row of CELLS 0: 1.");
        x.lamp(0, 1, 1);
        for (int k = 0; k < 4; k++) {
            s.due(x.sheet(k, k % 3, 40), 1);
            x.lay(k, 0, 5);
            x.lay(k, 39, 6);
            s.due(x.levels(k, k % 3, 39), 1);
            s.due(x.sheet(k, k % 3, 40), 1);
            s.due(x.levels(k, k % 3, 39), 1);
            s.due(x.lampOf(0, 4), 0);
            s.due(x.levels(k, k % 3, 0), 0);
            s.due(x.sheet(k, (k + 1) % 3, 1), 1);
            s.due(x.levels(k, (k + 1) % 3, 0), 0);
            s.due(x.levels(k, k % 3, 0), -13);
            s.due(x.lay(k, 1, 0), -12);
        }
        s.due(x.sheet(0, 0, 0), 1);
        s.due(x.count(9), 0);
        LampWires y = s.says("BAD: also n above 40");
        s.each(-1, n -> y.sheet(0, 0, n), 41, MOST);
        s.each(-1, k -> y.sheet(k, 0, 1), LEAST, -1, 4, MOST);
        s.each(-1, lane -> y.sheet(0, lane, 1), LEAST, -1, 3, MOST);
        s.each(-1, k -> y.sheet(k, 0, -1), LEAST, -1, 4, MOST);
        s.each(-1, lane -> y.sheet(0, lane, -1), LEAST, -1, 3, MOST);
        s.due(y.count(9), -4);
        LampWires z = s.says("-10 - 4.");
        s.each(-14, n -> z.sheet(3, 2, n), LEAST, -40, -1);
        s.due(z.lay(3, 0, 0), -11);
        z.sheet(3, 2, 7);
        s.due(z.sheet(3, 0, -1), -14);
        s.due(z.lay(3, 6, 0), 1);
        s.due(z.levels(3, 2, 0), 0);
    }

    private static void lay(Sentences s) {
        s.of("Promise 33");
        LampWires x = s.says("CELL i of a SHEET becomes v (its lowest bits): 1.");
        x.lamp(0, 1, 1);
        x.sheet(1, 2, 40);
        for (int i = 0; i < 40; i++) {
            s.due(x.lay(1, i, i % 16), 1);
        }
        for (int i = 0; i < 40; i++) {
            s.due(x.levels(1, 2, i), i == 0 ? 0 : 1);
            s.due(x.lampOf(0, 4), i % 16);
        }
        LampWires y = s.says("BAD: k");
        s.each(-1, k -> y.lay(k, 0, 0), LEAST, -1, 4, MOST);
        s.each(-1, k -> y.lay(k, -1, 0), LEAST, -1, 4, MOST);
        LampWires z = s.says("-10 less the FAULT: NULL, INDEX.");
        s.each(-11, i -> z.lay(2, i, 1), LEAST, -1, 0, 40, MOST);
        z.sheet(2, 1, 0);
        s.each(-12, i -> z.lay(2, i, 1), LEAST, -1, 0, MOST);
        z.sheet(2, 1, 3);
        s.each(-12, i -> z.lay(2, i, 1), LEAST, -1, 3, 39, 40, MOST);
        s.each(1, i -> z.lay(2, i, 1), 0, 2);
    }

    /** What a cell of each lane keeps of a number is seen where that is a level. */
    private static void laneBits(Sentences s) {
        LampWires x = s.says("v (its lowest bits)");
        x.lamp(0, 1, 1);
        int[][] rows = {
            // lane, what is laid, what levels answers
            {0, 15, 1}, {0, 256, 1}, {0, 255, -20}, {0, 128, -20}, {0, -1, -20}, {0, -241, 1}, {0, 0x7fffff00, 1},
            {0, LEAST, 0}, {0, MOST, -20}, {0, 0x10007, 1}, {1, 256, -20}, {1, 65535, -20}, {1, 32768, -20},
            {1, 65536, 1}, {1, 65551, 1}, {1, LEAST, 1}, {1, MOST, -20}, {1, -65521, 1}, {2, 65536, -20},
            {2, 15, 0}, {2, 16, -20}, {2, -1, -20}, {2, LEAST, -20}, {2, MOST, -20}, {2, 0, 1},
        };
        for (int[] row : rows) {
            x.sheet(0, row[0], 1);
            s.due(x.lay(0, 0, row[1]), 1);
            s.due(x.levels(0, row[0], 0), row[2]);
        }
    }

    private static void three(LampWires x) {
        x.lamp(0, 1, 1);
        x.lamp(1, 2, 1);
        x.lamp(2, 3, 1);
        x.sheet(0, 0, 5);
        for (int i = 0; i < 5; i++) {
            x.lay(0, i, 10 + i);
        }
    }

    private static void levels(Sentences s) {
        s.of("Promise 34");
        LampWires x = s.says("LEVELS of all LAMPS are read of a SHEET taken as of a lane, that of LAMP l of CELL f + l: "
            + "how many became others.");
        three(x);
        s.due(x.levels(0, 0, 0), 3);
        s.due(x.lampOf(0, 4), 10);
        s.due(x.lampOf(2, 4), 12);
        s.due(x.levels(0, 0, 0), 0);
        s.due(x.levels(0, 0, 2), 3);
        s.due(x.lampOf(2, 4), 14);
        x.level(1, 0);
        s.due(x.levels(0, 0, 2), 1);
        x.wires(4);
        s.due(x.levels(0, 0, MOST), 0);
        s.due(x.levels(0, 0, -1), 0);
        LampWires y = s.says("BAD: k, lane");
        three(y);
        s.each(-1, k -> y.levels(k, 0, 0), LEAST, -1, 4, MOST);
        s.each(-1, lane -> y.levels(0, lane, 0), LEAST, -1, 3, MOST);
        s.each(-1, lane -> y.levels(1, lane, 0), LEAST, -1, 3, MOST);
        s.due(y.count(7), 0);
    }

    private static void levelsFaults(Sentences s) {
        LampWires y = s.says("-10 less the FAULT: NULL, CAST, then LAMP by LAMP INDEX");
        three(y);
        s.each(-11, lane -> y.levels(3, lane, -1), 0, 1, 2);
        s.each(-13, lane -> y.levels(0, lane, -1), 1, 2);
        s.each(-12, f -> y.levels(0, 0, f), LEAST, -3, -2, -1, 3, 4, 5, MOST - 2, MOST - 1, MOST);
        s.due(y.count(7), 0);
        s.due(y.levels(0, 0, 2), 3);
        LampWires z = s.says("-20 less l: it is no LEVEL");
        three(z);
        for (int l = 0; l < 3; l++) {
            for (int v : new int[] {16, -1, 127, -128}) {
                z.lay(0, l, v);
                s.due(z.levels(0, 0, 0), -20 - l);
            }
            z.lay(0, l, 15);
        }
        s.due(z.levels(0, 0, 0), 3);
        z.wires(6);
        z.sheet(0, 2, 16);
        for (int l = 0; l < 16; l++) {
            z.lamp(l / 5, (l / 5 + 1 + l % 5) % 6, 1);
        }
        z.lay(0, 15, 16);
        s.due(z.levels(0, 2, 0), -35);
        LampWires x = s.says("the first met: then none changed.");
        three(x);
        x.level(0, 1);
        x.level(1, 2);
        x.level(2, 3);
        x.lay(0, 4, 16);
        // Lamp 1's cell is no level, lamp 2's is none.
        s.due(x.levels(0, 0, 3), -21);
        x.lay(0, 4, 15);
        s.due(x.levels(0, 0, 3), -12);
        x.lay(0, 2, 16);
        x.lay(0, 1, -1);
        s.due(x.levels(0, 0, 0), -21);
        s.due(x.levels(0, 0, 2), -20);
        s.due(x.lampOf(0, 4), 1);
        s.due(x.lampOf(1, 4), 2);
        s.due(x.lampOf(2, 4), 3);
    }

    private static void count(Sentences s) {
        s.of("Promise 35");
        s.says("How many: 0 WIRES");
        LampWires x = new LampWires();
        s.due(x.count(0), 4);
        x.wires(6);
        s.due(x.count(0), 6);
        x.wires(2);
        s.due(x.count(0), 2);
        x = s.says("1 LAMPS");
        s.due(x.count(1), 0);
        x.wires(6);
        for (int l = 0; l < 17; l++) {
            x.lamp(l / 5, (l / 5 + 1 + l % 5) % 6, 1);
            s.due(x.count(1), Math.min(l + 1, 16));
        }
        x = s.says("2 SUPPLY");
        s.due(x.count(2), 5);
        x.supply(30);
        s.due(x.count(2), 30);
        x = s.says("3 LAMPS that are BROKEN, 4 SHORTED");
        three(x);
        s.due(x.count(3), 0);
        s.due(x.count(4), 0);
        x.hurt(0, 1);
        x.hurt(1, 1);
        x.hurt(2, 2);
        s.due(x.count(3), 2);
        s.due(x.count(4), 1);
        x.hurt(0, 0);
        x.hurt(1, 2);
        s.due(x.count(3), 0);
        s.due(x.count(4), 2);
        x.wires(6);
        for (int l = 0; l < 16; l++) {
            x.lamp(l / 5, (l / 5 + 1 + l % 5) % 6, 1);
            x.hurt(l, 1);
        }
        s.due(x.count(3), 16);
        s.due(x.count(4), 0);
        x = s.says("5 lines, 6 LINES that are SEEN");
        s.due(x.count(5), 0);
        Check.tell(x, "dark 1;".repeat(12));
        s.due(x.count(5), 12);
        s.due(x.count(6), 0);
        for (int k = 0; k < 12; k++) {
            x.seen(k, 0);
            s.due(x.count(6), k + 1);
        }
        x.seen(4, -4);
        s.due(x.count(6), 11);
        countSums(s);
    }

    private static void countSums(Sentences s) {
        LampWires x = s.says("7 LEVELS, summed");
        s.due(x.count(7), 0);
        x.wires(6);
        for (int l = 0; l < 16; l++) {
            x.lamp(l / 5, (l / 5 + 1 + l % 5) % 6, 1);
            x.level(l, 15);
        }
        s.due(x.count(7), 240);
        x.wires(6);
        s.due(x.count(7), 0);
        x = s.says("8 bytes on THE TAPE");
        s.due(x.count(8), 0);
        for (int i = 1; i <= 26; i++) {
            x.feed(0);
            s.due(x.count(8), Math.min(8 * i, 200));
        }
        x.end(7);
        s.due(x.count(8), 7);
        x.program();
        s.due(x.count(8), 0);
        x = s.says("9 CELLS of SHEET 0 (NONE: nothing).");
        s.due(x.count(9), -4);
        x.sheet(1, 0, 9);
        s.due(x.count(9), -4);
        x.sheet(0, 0, 0);
        s.due(x.count(9), 0);
        x.sheet(0, 2, 40);
        s.due(x.count(9), 40);
        LampWires y = s.says("BAD.");
        s.each(-1, y::count, LEAST, -1, 10, MOST);
    }
}
