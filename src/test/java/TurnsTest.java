/** Promises 8 to 11: glow, turns, alone, astray. */
public final class TurnsTest {
    private static final Check C = new Check("TurnsTest");

    /** A turn by its wires: '.' free, '+' high, '-' low. */
    private static int turn(String wires) {
        int t = 0;
        for (int i = wires.length() - 1; i >= 0; i--) {
            t = 3 * t + ".+-".indexOf(wires.charAt(i));
        }
        return t;
    }

    private static void glow() {
        LampWires x = new LampWires();
        x.lamp(0, 1, 2);
        x.lamp(1, 2, 2);
        x.lamp(0, 2, 4);
        x.lamp(0, 3, 5);
        C.due("both ways are as short", x.glow(turn("+.-."), 0), 7);
        C.due("three", x.glow(turn("+.-."), 2), 3);
        C.due("their sum", x.glow(turn("+.-."), 1), 4);
        C.due("a driven wire stops the way", x.glow(turn("++-."), 0), 2);
        C.due("a low wire ends it", x.glow(turn("+--."), 0), 1);
        C.due("SUPPLY reached", x.glow(turn("+..-"), 0), 8);
        x.supply(4);
        C.due("SUPPLY passed", x.glow(turn("+..-"), 0), 0);
        C.due("LEAST is told all the same", x.glow(turn("+..-"), 1), 5);
        C.due("no way", x.glow(turn("-.+."), 1), -4);
        C.due("nothing driven", x.glow(0, 1), -4);
        C.due("nothing glows", x.glow(0, 2), 0);
        x.hurt(1, 2);
        C.due("over a shorted one", x.glow(turn("+.-."), 0), 1);
        C.due("without its volts", x.glow(turn("+.-."), 1), 2);
        C.due("over it backwards", x.glow(turn("+-.."), 0), 1);
        C.due("a short", x.glow(turn(".-+."), 1), 0);
        C.due("nothing glows in a short", x.glow(turn("+-+."), 0), 0);
        C.due("glow(81, 0)", x.glow(81, 0), -1);
        C.due("glow(-1, 0)", x.glow(-1, 0), -1);
        C.due("glow(0, 3)", x.glow(0, 3), -1);
        C.due("glow(0, -1)", x.glow(0, -1), -1);
        C.due("glow(80, 0)", x.glow(80, 0), 0);
        x.wires(6);
        x.lamp(5, 4, 1);
        C.due("glow(728, 1)", x.glow(728, 1), -4);
        C.due("glow(729, 1)", x.glow(729, 1), -1);
        C.due("glow(405, 0)", x.glow(243 + 2 * 81, 0), 1);
    }

    private static void shortBack() {
        LampWires x = new LampWires();
        x.lamp(0, 1, 1);
        x.lamp(1, 0, 1);
        x.hurt(1, 2);
        C.due("the shorted one leads back beside the sound one", x.glow(turn("+-.."), 1), 0);
        C.due("so the sound one is dark", x.glow(turn("+-.."), 0), 0);
    }

    private static void turns() {
        LampWires x = new LampWires();
        x.wires(2);
        C.due("none: turns(3)", x.turns(3), 0);
        C.due("none: turns(2)", x.turns(2), 0);
        x.lamp(1, 0, 1);
        C.due("turns(0)", x.turns(0), 0);
        C.due("turns(1)", x.turns(1), 1);
        C.due("turns(2)", x.turns(2), 1);
        C.due("turns(3)", x.turns(3), turn("-+"));
        C.due("turns(4)", x.turns(4), -1);
        C.due("turns(-1)", x.turns(-1), -1);
        x.hurt(0, 2);
        C.due("shorts both ways", x.turns(0), 2);
        C.due("none glows", x.turns(1), 0);
        x.wires(3);
        x.lamp(0, 1, 1);
        x.lamp(2, 1, 1);
        C.due("two at once", x.turns(2), 2);
        C.due("the least turn of two", x.turns(3), turn("+-+"));
        x.supply(1);
        x.wires(3);
        x.lamp(0, 1, 2);
        C.due("beyond SUPPLY", x.turns(1), 0);
    }

    private static void alone() {
        LampWires x = new LampWires();
        x.wires(3);
        x.lamp(0, 1, 1);
        x.lamp(1, 2, 1);
        x.lamp(0, 2, 2);
        C.due("alone(0)", x.alone(0), turn("+-."));
        C.due("alone(1)", x.alone(1), turn(".+-"));
        C.due("alone(2)", x.alone(2), -4);
        x.hurt(1, 1);
        C.due("alone(2) when a way is broken", x.alone(2), turn("+.-"));
        C.due("alone(1) when broken", x.alone(1), -4);
        C.due("alone(3)", x.alone(3), -1);
        C.due("alone(-1)", x.alone(-1), -1);
    }

    private static void astray() {
        LampWires x = new LampWires();
        x.wires(3);
        x.lamp(0, 1, 1);
        x.lamp(1, 2, 1);
        x.lamp(0, 2, 2);
        C.due("astray(0)", x.astray(0), turn("+.-"));
        C.due("astray(1)", x.astray(1), turn("+.-"));
        C.due("astray(2) is never one of two", x.astray(2), -4);
        x.hurt(1, 2);
        C.due("a shorted lamp is one of the way", x.astray(0), turn("+.-"));
        C.due("it does not glow itself", x.astray(1), -4);
        C.due("lamp 2 goes astray backwards", x.astray(2), -4);
        C.due("astray(3)", x.astray(3), -1);
        C.due("astray(-1)", x.astray(-1), -1);
    }

    public static void main(String[] args) {
        glow();
        shortBack();
        turns();
        alone();
        astray();
        C.finish();
    }
}
