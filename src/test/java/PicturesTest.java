/** Promises 12 to 19: frame, frameTurn, sets, shown, level, plan, light, uneven. */
public final class PicturesTest {
    private static final Check C = new Check("PicturesTest");

    /** Lamps from wires 0, 1 to wires 2, 3: rows and columns. */
    private static LampWires grid() {
        LampWires x = new LampWires();
        x.lamp(0, 2, 1);
        x.lamp(0, 3, 1);
        x.lamp(1, 2, 1);
        x.lamp(1, 3, 1);
        return x;
    }

    private static void frame() {
        LampWires x = grid();
        C.due("all at once", x.frame(15), 1);
        C.due("by the least turn", x.frameTurn(15, 0), 1 + 3 + 18 + 54);
        C.due("two across", x.frame(9), 2);
        C.due("the first by the least lamp", x.frameTurn(9, 0), 1 + 18);
        C.due("then the other one", x.frameTurn(9, 1), 3 + 54);
        C.due("no third", x.frameTurn(9, 2), -4);
        C.due("a turn may show a lamp again", x.frame(7), 2);
        C.due("the row is less than the column", x.frameTurn(7, 0), 1 + 3 + 18);
        C.due("the least turn for what is left", x.frameTurn(7, 1), 1 + 54);
        C.due("no lamps", x.frame(0), 0);
        C.due("no lamps: no turn", x.frameTurn(0, 0), -4);
        C.due("frame(16)", x.frame(16), -1);
        C.due("frame(-1)", x.frame(-1), -1);
        C.due("frameTurn(16, 0)", x.frameTurn(16, 0), -1);
        C.due("frameTurn(1, -1)", x.frameTurn(1, -1), -1);
        C.due("frameTurn(1, far)", x.frameTurn(1, Integer.MAX_VALUE), -4);
        x.hurt(0, 1);
        C.due("a broken lamp can not be", x.frame(1), -4);
        C.due("nor its turn", x.frameTurn(1, 0), -4);
        C.due("BAD before NONE", x.frameTurn(1, -1), -1);
        C.due("the others can", x.frame(14), 1);
        x.hurt(0, 0);
        x.supply(1);
        C.due("mended", x.frame(1), 1);
    }

    private static void sets() {
        LampWires x = grid();
        // Rows times columns, each one or both, and none.
        C.due("sets()", x.sets(), 3 * 3 + 1);
        C.due("shown(0)", x.shown(0), 1);
        C.due("shown(1)", x.shown(1), 10);
        C.due("shown(2)", x.shown(2), 16);
        C.due("shown(16)", x.shown(16), 16);
        C.due("shown(17)", x.shown(17), -1);
        C.due("shown(-1)", x.shown(-1), -1);
        x.hurt(3, 2);
        x.hurt(0, 1);
        // Lamp 3 shorted joins wires 1 and 3: lamps 1 and 2 glow, 0 is broken.
        C.due("sets() of hurt lamps", x.sets(), 4);
        C.due("shown(1) of hurt lamps", x.shown(1), 4);
        LampWires none = new LampWires();
        C.due("no lamps: sets()", none.sets(), 1);
        C.due("no lamps: shown(16)", none.shown(16), 1);
    }

    private static void level() {
        LampWires x = grid();
        C.due("level(0, 16)", x.level(0, 16), -1);
        C.due("level(0, -1)", x.level(0, -1), -1);
        C.due("level(4, 0)", x.level(4, 0), -1);
        C.due("level(-1, 0)", x.level(-1, 0), -1);
        C.due("level(0, 15)", x.level(0, 15), 0);
        C.due("level(0, 2)", x.level(0, 2), 15);
        C.due("count(7)", x.count(7), 2);
    }

    private static void plan() {
        LampWires x = grid();
        C.due("all 0: SPAN", x.plan(0), 0);
        C.due("all 0: turns", x.plan(1), 0);
        x.level(0, 9);
        x.level(1, 8);
        x.level(2, 8);
        x.level(3, 1);
        // Plane 0: lamps 0, 3: two turns; plane 3: lamps 0, 1, 2: two turns.
        C.due("SPAN", x.plan(0), 2 * 1 + 2 * 8);
        C.due("turns", x.plan(1), 4);
        C.due("plane 0", x.plan(10), 2);
        C.due("plane 1", x.plan(11), 0);
        C.due("plane 3", x.plan(13), 2);
        C.due("plan(14)", x.plan(14), -1);
        C.due("plan(9)", x.plan(9), -1);
        C.due("plan(2)", x.plan(2), -1);
        C.due("plan(-1)", x.plan(-1), -1);
        // Plane 3 is lamps 0 and 2 together, then lamp 1 alone.
        C.due("frameTurn(7, 0)", x.frameTurn(7, 0), 1 + 3 + 18);
        C.due("light(0, 0)", x.light(0, 0), 5);
        C.due("light(0, 1)", x.light(0, 1), 1);
        C.due("light(1, 0)", x.light(1, 0), 8);
        C.due("light(2, 0)", x.light(2, 0), 4);
        C.due("light(2, 1)", x.light(2, 1), 1);
        C.due("light(3, 0)", x.light(3, 0), 1);
        C.due("light(4, 0)", x.light(4, 0), -1);
        C.due("light(0, 2)", x.light(0, 2), -1);
        C.due("uneven(0)", x.uneven(0), 4);
        C.due("uneven(1)", x.uneven(1), 1);
        C.due("uneven(2)", x.uneven(2), -1);
        C.due("uneven(-1)", x.uneven(-1), -1);
        x.hurt(3, 1);
        C.due("a plane can not be: SPAN", x.plan(0), -4);
        C.due("a plane can not be: turns", x.plan(1), -4);
        C.due("that one", x.plan(10), -4);
        C.due("another one", x.plan(13), 1);
        C.due("no plan: light", x.light(0, 0), -4);
        C.due("no plan: a lamp that there is not", x.light(9, 0), -1);
        C.due("no plan: uneven", x.uneven(0), -4);
        C.due("no plan: uneven(2)", x.uneven(2), -1);
    }

    private static void thirds() {
        LampWires x = new LampWires();
        x.lamp(0, 3, 1);
        x.lamp(1, 3, 1);
        x.lamp(2, 3, 1);
        for (int l = 0; l < 3; l++) {
            x.level(l, l == 2 ? 1 : 3);
        }
        // Plane 0: all three share a tick; plane 1: two share two ticks.
        C.due("light(0, 0)", x.light(0, 0), 4);
        C.due("light(0, 1)", x.light(0, 1), 3);
        C.due("light(2, 0)", x.light(2, 0), 1);
        C.due("light(2, 1)", x.light(2, 1), 3);
        C.due("of one level, alike", x.uneven(0), 0);
        C.due("0 by 1", x.uneven(1), 1);
        x.level(2, 0);
        C.due("level 0: no light", x.light(2, 0), 0);
        C.due("level 0: by 1", x.light(2, 1), 1);
        C.due("level 0 is not looked at", x.uneven(0), 0);
    }

    /** Of lamps 0, 1, 3 the first glows alone, then the two others together. */
    private static void apart() {
        for (int v = 1; v <= 15; v++) {
            LampWires x = grid();
            x.level(0, v);
            x.level(1, v);
            x.level(3, v);
            C.due("the least turn for lamp 0", x.frameTurn(11, 0), 1 + 18);
            C.due("light of lamp 0, level " + v, x.light(0, 0), v);
            C.due("half of that apart, level " + v, x.uneven(0), v % 2 == 0 ? v / 2 : v);
            C.due("its denominator, level " + v, x.uneven(1), v % 2 == 0 ? 1 : 2);
        }
    }

    private static void sixteen() {
        LampWires x = new LampWires();
        x.wires(6);
        for (int i = 0; i < 16; i++) {
            x.lamp(i % 4, 4 + i / 8, 1);
            x.lamp(4 + i % 2, i / 4, 1);
        }
        C.due("sixteen lamps", x.count(1), 16);
        for (int l = 0; l < 16; l++) {
            x.level(l, 15);
        }
        C.due("two turns for all", x.frame(65535), 2);
        C.due("SPAN", x.plan(0), 30);
        C.due("an eighth of each tick", x.light(15, 0), 15);
        C.due("by eight", x.light(15, 1), 8);
        C.due("all alike", x.uneven(0), 0);
        C.due("each picture", x.shown(16), 65536);
    }

    public static void main(String[] args) {
        frame();
        sets();
        level();
        plan();
        thirds();
        apart();
        sixteen();
        C.finish();
    }
}
