/** Promises 1 to 7: a new object, wires, supply, lamp, lampOf, hurt, between. */
public final class WiresTest {
    private static final Check C = new Check("WiresTest");

    private static void newObject() {
        LampWires x = new LampWires();
        int[] counts = {4, 0, 5, 0, 0, 0, 0, 0, 0, LampWires.NONE};
        for (int what = 0; what < counts.length; what++) {
            C.due("new: count(" + what + ")", x.count(what), counts[what]);
        }
        C.due("new: fault()", x.fault(), 0);
        C.due("new: sets()", x.sets(), 1);
        C.due("new: round(0)", x.round(0), 0);
        for (int k = 0; k < 4; k++) {
            C.due("new: lay(" + k + ", 0, 0)", x.lay(k, 0, 0), -11);
        }
        C.due("BAD", LampWires.BAD, -1);
        C.due("STATE", LampWires.STATE, -2);
        C.due("FULL", LampWires.FULL, -3);
        C.due("NONE", LampWires.NONE, -4);
    }

    private static void wires() {
        LampWires x = new LampWires();
        C.due("wires(1)", x.wires(1), -1);
        C.due("wires(7)", x.wires(7), -1);
        C.due("wires(least)", x.wires(Integer.MIN_VALUE), -1);
        C.due("wires(6)", x.wires(6), 4);
        x.supply(9);
        x.lamp(0, 5, 3);
        x.lamp(5, 0, 3);
        x.level(1, 7);
        x.hurt(1, 2);
        x.sheet(0, 1, 3);
        C.due("a line", Check.tell(x, "high 0 low 5 for 4;"), 1);
        x.seen(0, 1);
        Check.tell(x, "low");
        x.feed(0);
        C.due("a refused wires", x.wires(0), -1);
        C.due("refused: lamps stay", x.count(1), 2);
        C.due("refused: lines stay", x.count(5), 1);
        C.due("wires(6) again", x.wires(6), 6);
        C.due("lamps are gone", x.count(1), 0);
        C.due("lines are gone", x.count(5), 0);
        C.due("seen is gone", x.count(6), 0);
        C.due("levels are gone", x.count(7), 0);
        C.due("shorted are gone", x.count(4), 0);
        C.due("supply stays", x.count(2), 9);
        C.due("the tape stays", x.count(8), 8);
        C.due("the sheets stay", x.count(9), 3);
        C.due("the fault stays", x.fault(), 2);
        C.due("a lamp anew", x.lamp(0, 5, 3), 0);
        x.lamp(1, 5, 3);
        C.due("its level", x.lampOf(1, 4), 0);
        C.due("its state", x.lampOf(1, 3), 0);
        C.due("wires(2)", x.wires(2), 6);
        C.due("no wire 2", x.lamp(0, 2, 1), -1);
        C.due("turn 9 is none", x.glow(9, 0), -1);
        C.due("turn 8 is one", x.glow(8, 0), 0);
        x.lamp(0, 1, 1);
        C.due("it glows", x.turns(1), 1);
        C.due("shown", x.shown(16), 2);
        x.wires(2);
        C.due("what glowed is gone", x.turns(1), 0);
        C.due("its turn, too", x.glow(7, 0), 0);
        C.due("and what was shown", x.shown(16), 1);
    }

    private static void supply() {
        LampWires x = new LampWires();
        x.lamp(0, 1, 3);
        C.due("supply(0)", x.supply(0), -1);
        C.due("supply(31)", x.supply(31), -1);
        C.due("supply(1)", x.supply(1), 5);
        C.due("too little", x.glow(7, 0), 0);
        C.due("supply(3)", x.supply(3), 1);
        C.due("just enough", x.glow(7, 0), 1);
        C.due("supply(30)", x.supply(30), 3);
        C.due("count(2)", x.count(2), 30);
    }

    private static void lamps() {
        LampWires x = new LampWires();
        int[][] bad = {{-1, 1, 1}, {4, 1, 1}, {1, -1, 1}, {1, 4, 1}, {2, 2, 1}, {0, 1, 0}, {0, 1, 10}, {0, 1, -3}};
        for (int[] b : bad) {
            C.due("lamp(" + b[0] + ", " + b[1] + ", " + b[2] + ")", x.lamp(b[0], b[1], b[2]), -1);
        }
        C.due("lamp(3, 0, 9)", x.lamp(3, 0, 9), 0);
        C.due("lamp(3, 0, 1)", x.lamp(3, 0, 1), -2);
        C.due("BAD before STATE", x.lamp(3, 0, 10), -1);
        C.due("the other way", x.lamp(0, 3, 1), 1);
        C.due("lampOf(0, 0)", x.lampOf(0, 0), 3);
        C.due("lampOf(0, 1)", x.lampOf(0, 1), 0);
        C.due("lampOf(0, 2)", x.lampOf(0, 2), 9);
        C.due("lampOf(0, 3)", x.lampOf(0, 3), 0);
        C.due("lampOf(0, 4)", x.lampOf(0, 4), 0);
        C.due("lampOf(0, 5)", x.lampOf(0, 5), -1);
        C.due("lampOf(0, -1)", x.lampOf(0, -1), -1);
        C.due("lampOf(2, 0)", x.lampOf(2, 0), -1);
        C.due("lampOf(-1, 0)", x.lampOf(-1, 0), -1);
        x.level(0, 15);
        C.due("its level", x.lampOf(0, 4), 15);
        C.due("between(3, 0)", x.between(3, 0), 0);
        C.due("between(0, 3)", x.between(0, 3), 1);
        C.due("between(1, 2)", x.between(1, 2), -4);
        C.due("between(1, 1)", x.between(1, 1), -1);
        C.due("between(0, 4)", x.between(0, 4), -1);
        C.due("between(-1, 0)", x.between(-1, 0), -1);
    }

    private static void full() {
        LampWires x = new LampWires();
        x.wires(6);
        int made = 0;
        for (int from = 0; from < 6; from++) {
            for (int to = 0; to < 6; to++) {
                if (from != to) {
                    C.due("lamp " + made, x.lamp(from, to, 1), made < 16 ? made : -3);
                    made++;
                }
            }
        }
        C.due("STATE before FULL", x.lamp(0, 1, 1), -2);
        C.due("BAD before FULL", x.lamp(5, 4, 0), -1);
        C.due("sixteen", x.count(1), 16);
    }

    private static void hurt() {
        LampWires x = new LampWires();
        x.lamp(0, 1, 2);
        C.due("hurt(0, 3)", x.hurt(0, 3), -1);
        C.due("hurt(0, -1)", x.hurt(0, -1), -1);
        C.due("hurt(1, 0)", x.hurt(1, 0), -1);
        C.due("hurt(0, 1)", x.hurt(0, 1), 0);
        C.due("broken", x.glow(7, 1), -4);
        C.due("hurt(0, 2)", x.hurt(0, 2), 1);
        C.due("shorted", x.glow(7, 1), 0);
        C.due("shorted, the other way", x.glow(5, 1), 0);
        C.due("it never glows", x.glow(7, 0), 0);
        C.due("hurt(0, 0)", x.hurt(0, 0), 2);
        C.due("sound", x.glow(7, 0), 1);
        C.due("sound, the other way", x.glow(5, 1), -4);
    }

    public static void main(String[] args) {
        newObject();
        wires();
        supply();
        lamps();
        full();
        hurt();
        C.finish();
    }
}
