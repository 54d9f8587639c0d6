/** Promises 1 to 11: a new object, wires, supply, lamp, lampOf, hurt, between, glow, turns, alone, astray. */
final class EdgesOfWires {
    private static final int LEAST = Integer.MIN_VALUE;
    private static final int MOST = Integer.MAX_VALUE;

    static void look(Sentences s) {
        newObject(s);
        wires(s);
        supply(s);
        lamp(s);
        lampOf(s);
        hurt(s);
        between(s);
        glow(s);
        glowBad(s);
        turns(s);
        alone(s);
        astray(s);
    }

    private static void newObject(Sentences s) {
        s.of("Promise 1");
        LampWires x = s.says("As told at first");
        s.due(x.count(0), 4);
        s.due(x.count(2), 5);
        s.due(x.count(6), 0);
        s.due(x.count(7), 0);
        s.due(x.count(8), 0);
        s.due(x.fault(), 0);
        x = s.says("no LAMPS, PROGRAM of no lines");
        s.due(x.count(1), 0);
        s.due(x.lampOf(0, 0), -1);
        s.due(x.sets(), 1);
        s.due(x.count(5), 0);
        s.due(x.line(0, 0), -1);
        s.due(x.round(0), 0);
        s.due(x.at(0), -2);
        LampWires y = s.says("SHEETS of nothing.");
        s.due(y.count(9), -4);
        s.each(-11, k -> y.lay(k, 0, 0), 0, 1, 2, 3);
        s.each(-11, k -> y.levels(k, 0, 0), 0, 1, 2, 3);
    }

    /** Six wires, of which the last is used. */
    private static void busy(LampWires x) {
        x.wires(6);
        x.lamp(0, 5, 3);
        x.lamp(5, 0, 3);
        x.hurt(1, 2);
        x.level(0, 7);
        x.level(1, 8);
        Check.tell(x, "high 0 low 5 for 4;dark 1;");
        x.seen(0, 1);
    }

    private static void wires(Sentences s) {
        s.of("Promise 2");
        LampWires x = s.says("W becomes n");
        s.due(x.lamp(0, 5, 1), -1);
        x.wires(6);
        s.due(x.lamp(0, 5, 1), 0);
        s.due(x.glow(728, 0), 0);
        x.wires(2);
        s.due(x.lamp(0, 1, 1), 0);
        s.due(x.lamp(0, 2, 1), -1);
        s.due(x.glow(9, 0), -1);
        x = s.says("all LAMPS, LEVELS, THE PROGRAM's lines are gone");
        busy(x);
        x.seen(0, 0);
        // 81 turns in each of the two ways.
        s.due(x.turns(0), 162);
        s.due(x.likely(0), 1);
        s.due(x.tells(1), 2);
        s.due(x.shown(16), 1);
        x.wires(6);
        s.due(x.glow(Sentences.turn("+....-"), 1), -4);
        s.due(x.likely(0), 0);
        s.due(x.tells(1), -4);
        s.due(x.count(1), 0);
        s.due(x.count(4), 0);
        s.due(x.count(5), 0);
        s.due(x.count(6), 0);
        s.due(x.count(7), 0);
        s.due(x.round(0), 0);
        s.due(x.at(0), -2);
        s.due(x.turns(0), 0);
        s.due(x.between(0, 5), -4);
        s.due(x.lamp(5, 0, 3), 0);
        s.due(x.lamp(0, 5, 3), 1);
        s.due(x.lampOf(1, 3), 0);
        s.due(x.lampOf(1, 4), 0);
        s.due(x.plan(0), 0);
        x = s.says("what W was.");
        s.due(x.wires(2), 4);
        s.due(x.wires(2), 2);
        s.due(x.wires(6), 2);
        s.due(x.wires(4), 6);
        LampWires y = s.says("BAD.");
        busy(y);
        s.each(-1, y::wires, LEAST, -1, 0, 1, 7, MOST);
        s.due(y.count(0), 6);
        s.due(y.count(1), 2);
        s.due(y.count(5), 2);
        s.due(y.count(7), 15);
    }

    private static void supply(Sentences s) {
        s.of("Promise 3");
        LampWires x = s.says("SUPPLY becomes v: what it was.");
        x.lamp(0, 1, 9);
        x.lamp(1, 2, 9);
        s.due(x.glow(Sentences.turn("+-.."), 0), 0);
        s.due(x.supply(9), 5);
        s.due(x.glow(Sentences.turn("+-.."), 0), 1);
        s.due(x.supply(8), 9);
        s.due(x.glow(Sentences.turn("+-.."), 0), 0);
        s.due(x.supply(30), 8);
        s.due(x.glow(Sentences.turn("+.-."), 0), 3);
        s.due(x.supply(1), 30);
        s.due(x.supply(1), 1);
        x.wires(4);
        x.supply(5);
        x.lamp(0, 1, 3);
        Check.tell(x, "high 0 low 1 for 1;");
        x.seen(0, 1);
        x.level(0, 1);
        s.due(x.turns(1), 9);
        s.due(x.shown(1), 2);
        s.due(x.plan(0), 1);
        s.due(x.likely(0), 0);
        s.due(x.tells(0), 2);
        x.supply(2);
        s.due(x.turns(1), 0);
        s.due(x.shown(1), 1);
        s.due(x.plan(0), -4);
        s.due(x.likely(0), -4);
        s.due(x.tells(0), 0);
        LampWires y = s.says("BAD.");
        s.each(-1, y::supply, LEAST, -1, 0, 31, MOST);
        s.due(y.count(2), 5);
    }

    private static void lamp(Sentences s) {
        s.of("Promise 4");
        LampWires x = s.says("A LAMP: its number.");
        x.wires(6);
        for (int l = 0; l < 16; l++) {
            s.due(x.lamp(l / 5, (l / 5 + 1 + l % 5) % 6, 1 + l % 9), l);
        }
        x.wires(6);
        s.due(x.lamp(5, 0, 9), 0);
        LampWires y = s.says("BAD: also from a WIRE to itself");
        s.each(-1, w -> y.lamp(w, w, 1), LEAST, -1, 0, 1, 2, 3, 4, MOST);
        s.each(-1, w -> y.lamp(w, 0, 1), LEAST, -1, 4, MOST);
        s.each(-1, w -> y.lamp(0, w, 1), LEAST, -1, 4, MOST);
        s.each(-1, v -> y.lamp(0, 1, v), LEAST, -1, 0, 10, MOST);
        s.due(y.count(1), 0);
        x = s.says("STATE: there is one from the one to the other");
        s.due(x.lamp(0, 1, 1), 0);
        s.due(x.lamp(0, 1, 9), -2);
        s.due(x.lampOf(0, 2), 1);
        s.due(x.lamp(1, 0, 9), 1);
        x.hurt(0, 1);
        s.due(x.lamp(0, 1, 9), -2);
        x.wires(4);
        s.due(x.lamp(0, 1, 9), 0);
        x = s.says("FULL.");
        x.wires(6);
        for (int l = 0; l < 16; l++) {
            x.lamp(l / 5, (l / 5 + 1 + l % 5) % 6, 1);
        }
        s.due(x.lamp(4, 5, 1), -3);
        s.due(x.lamp(5, 4, 9), -3);
        s.due(x.lamp(0, 1, 1), -2);
        s.due(x.lamp(4, 4, 1), -1);
        s.due(x.count(1), 16);
        s.due(x.between(4, 5), -4);
    }

    private static void lampOf(Sentences s) {
        s.of("Promise 5");
        LampWires x = s.says("Of a LAMP: 0 the WIRE from, 1 to, 2 VOLTS, 3 SOUND (0), BROKEN (1), SHORTED (2), 4 LEVEL.");
        x.lamp(1, 2, 1);
        x.lamp(3, 0, 9);
        x.level(1, 15);
        s.due(x.lampOf(1, 0), 3);
        s.due(x.lampOf(1, 1), 0);
        s.due(x.lampOf(1, 2), 9);
        for (int how = 0; how < 3; how++) {
            x.hurt(1, how);
            s.due(x.lampOf(1, 3), how);
        }
        s.due(x.lampOf(1, 4), 15);
        s.due(x.lampOf(0, 0), 1);
        s.due(x.lampOf(0, 4), 0);
        LampWires y = s.says("BAD.");
        s.due(y.lampOf(0, 0), -1);
        y.lamp(1, 2, 1);
        s.each(-1, what -> y.lampOf(0, what), LEAST, -1, 5, MOST);
        s.each(-1, l -> y.lampOf(l, 0), LEAST, -1, 1, 15, 16, MOST);
    }

    private static void hurt(Sentences s) {
        s.of("Promise 6");
        LampWires x = s.says("A LAMP becomes SOUND (0), BROKEN (1), SHORTED (2): what it was.");
        x.lamp(0, 1, 1);
        s.due(x.hurt(0, 0), 0);
        s.due(x.hurt(0, 1), 0);
        s.due(x.turns(1), 0);
        s.due(x.hurt(0, 1), 1);
        s.due(x.hurt(0, 2), 1);
        // The two other wires stand as they like: nine turns each way.
        s.due(x.turns(0), 18);
        s.due(x.hurt(0, 0), 2);
        s.due(x.turns(0), 0);
        s.due(x.turns(1), 9);
        LampWires y = s.says("BAD.");
        s.due(y.hurt(0, 0), -1);
        y.lamp(0, 1, 1);
        s.each(-1, how -> y.hurt(0, how), LEAST, -1, 3, MOST);
        s.each(-1, l -> y.hurt(l, 1), LEAST, -1, 1, 16, MOST);
        s.due(y.lampOf(0, 3), 0);
    }

    private static void between(Sentences s) {
        s.of("Promise 7");
        LampWires x = s.says("The LAMP from a WIRE to another one.");
        x.wires(6);
        x.lamp(0, 5, 1);
        x.lamp(5, 0, 1);
        s.due(x.between(0, 5), 0);
        s.due(x.between(5, 0), 1);
        x.hurt(1, 1);
        s.due(x.between(5, 0), 1);
        LampWires y = s.says("BAD: also one and the same");
        s.each(-1, w -> y.between(w, w), LEAST, -1, 0, 3, 4, MOST);
        s.each(-1, w -> y.between(w, 0), LEAST, -1, 4, MOST);
        s.each(-1, w -> y.between(0, w), LEAST, -1, 4, MOST);
        x = s.says("NONE.");
        s.due(x.between(0, 3), -4);
        x.lamp(3, 0, 1);
        s.due(x.between(0, 3), -4);
        s.due(x.between(3, 0), 0);
    }

    private static void glow(Sentences s) {
        s.of("Promise 8");
        LampWires x = s.says("LAMPS that GLOW in a TURN (what 0, bits)");
        x.lamp(0, 1, 1);
        x.lamp(0, 2, 1);
        x.lamp(0, 3, 2);
        s.due(x.glow(0, 0), 0);
        s.due(x.glow(Sentences.turn("+--."), 0), 3);
        s.due(x.glow(Sentences.turn("+---"), 0), 3);
        s.due(x.glow(Sentences.turn("+..-"), 0), 4);
        s.due(x.glow(Sentences.turn("----"), 0), 0);
        s.due(x.glow(Sentences.turn("++++"), 0), 0);
        x = s.says("LEAST (1; NONE: no WAY)");
        s.due(x.glow(0, 1), -4);
        x.lamp(0, 1, 9);
        s.due(x.glow(Sentences.turn("+-.."), 1), 9);
        s.due(x.glow(Sentences.turn("-+.."), 1), -4);
        s.due(x.glow(Sentences.turn("+.-."), 1), -4);
        x.hurt(0, 2);
        s.due(x.glow(Sentences.turn("-+.."), 1), 0);
        x.hurt(0, 1);
        s.due(x.glow(Sentences.turn("+-.."), 1), -4);
        x = s.says("how many GLOW (2).");
        s.due(x.glow(0, 2), 0);
        x.wires(6);
        for (int from = 0; from < 6; from++) {
            for (int to = from + 1; to < 6; to++) {
                x.lamp(from, to, to - from);
            }
        }
        s.due(x.glow(Sentences.turn("+....-"), 2), 15);
        s.due(x.glow(Sentences.turn("+-...."), 2), 1);
        x.supply(4);
        s.due(x.glow(Sentences.turn("+....-"), 2), 0);
    }

    private static void glowBad(Sentences s) {
        LampWires x = s.says("BAD: also a TURN not below 3 to the W.");
        int power = 9;
        for (int w = 2; w <= 6; w++) {
            x.wires(w);
            s.due(x.glow(power - 1, 0), 0);
            s.due(x.glow(power, 0), -1);
            s.due(x.glow(power, 1), -1);
            s.due(x.glow(power, 2), -1);
            power *= 3;
        }
        s.each(-1, turn -> x.glow(turn, 0), LEAST, -1, 730, MOST);
        s.each(-1, what -> x.glow(0, what), LEAST, -1, 3, MOST);
    }

    private static void turns(Sentences s) {
        s.of("Promise 9");
        LampWires x = s.says("How many TURNS are SHORTS (what 0)");
        s.due(x.turns(0), 0);
        x.wires(2);
        x.lamp(0, 1, 1);
        s.due(x.turns(0), 0);
        x.hurt(0, 2);
        s.due(x.turns(0), 2);
        x = s.says("in how many some LAMP GLOWS (1)");
        s.due(x.turns(1), 0);
        x.lamp(0, 1, 5);
        s.due(x.turns(1), 9);
        x.supply(4);
        s.due(x.turns(1), 0);
        x = s.says("the most LAMPS that GLOW in one (2)");
        s.due(x.turns(2), 0);
        x.lamp(0, 1, 1);
        s.due(x.turns(2), 1);
        x.lamp(2, 3, 1);
        s.due(x.turns(2), 2);
        x.hurt(0, 1);
        x.hurt(1, 1);
        s.due(x.turns(2), 0);
        x = s.says("the least TURN in which as many do (3; 0: none ever).");
        s.due(x.turns(3), 0);
        x.lamp(2, 3, 1);
        s.due(x.turns(3), Sentences.turn("..+-"));
        x.lamp(0, 1, 1);
        s.due(x.turns(3), Sentences.turn("+-+-"));
        x.hurt(0, 1);
        s.due(x.turns(3), Sentences.turn("+-.."));
        x.hurt(1, 2);
        s.due(x.turns(3), 0);
        LampWires y = s.says("BAD.");
        s.each(-1, y::turns, LEAST, -1, 4, MOST);
    }

    private static void alone(Sentences s) {
        s.of("Promise 10");
        LampWires x = s.says("The least TURN in which LAMP l GLOWS alone.");
        x.lamp(0, 2, 1);
        x.lamp(0, 1, 1);
        x.lamp(3, 1, 1);
        s.due(x.alone(0), Sentences.turn("+.-."));
        s.due(x.alone(1), Sentences.turn("+-.."));
        s.due(x.alone(2), Sentences.turn(".-.+"));
        LampWires y = s.says("BAD");
        s.due(y.alone(0), -1);
        y.lamp(0, 1, 1);
        s.each(-1, y::alone, LEAST, -1, 1, 16, MOST);
        x = s.says("NONE.");
        x.lamp(0, 1, 1);
        x.lamp(1, 2, 1);
        x.lamp(0, 2, 2);
        s.due(x.alone(2), -4);
        x.hurt(0, 1);
        s.due(x.alone(0), -4);
        s.due(x.alone(2), Sentences.turn("+.-."));
        x.hurt(0, 2);
        s.due(x.alone(0), -4);
        x.supply(1);
        s.due(x.alone(2), -4);
        s.due(x.alone(1), Sentences.turn("+.-."));
        x.wires(4);
        x.lamp(0, 1, 1);
        s.due(x.alone(0), Sentences.turn("+-.."));
        x.hurt(0, 1);
        s.due(x.alone(0), -4);
    }

    private static void astray(Sentences s) {
        s.of("Promise 11");
        LampWires x = s.says("The least TURN in which LAMP l GLOWS, one of a WAY over two LAMPS or more.");
        x.lamp(0, 1, 1);
        x.lamp(1, 2, 1);
        s.due(x.astray(0), Sentences.turn("+.-."));
        s.due(x.astray(1), Sentences.turn("+.-."));
        x.lamp(2, 3, 1);
        s.due(x.astray(0), Sentences.turn("+.-."));
        s.due(x.astray(2), Sentences.turn("+..-"));
        x.supply(2);
        s.due(x.astray(2), Sentences.turn(".+.-"));
        x.wires(4);
        x.lamp(1, 0, 1);
        x.lamp(0, 2, 1);
        s.due(x.astray(0), Sentences.turn(".+-."));
        s.due(x.astray(1), Sentences.turn(".+-."));
        LampWires y = s.says("BAD");
        s.due(y.astray(0), -1);
        y.lamp(0, 1, 1);
        s.each(-1, y::astray, LEAST, -1, 1, 16, MOST);
        x = s.says("NONE.");
        x.lamp(0, 1, 1);
        s.due(x.astray(0), -4);
        x.lamp(1, 2, 5);
        // Both together are 6 volts, more than the supply.
        s.due(x.astray(0), -4);
        x.supply(6);
        s.due(x.astray(0), Sentences.turn("+.-."));
        x.hurt(0, 2);
        s.due(x.astray(0), -4);
        x.wires(6);
        x.lamp(4, 5, 1);
        s.due(x.astray(0), -4);
    }
}
