/** Promises 32 to 35: sheet, lay, levels, count. */
public final class SheetsTest {
    private static final Check C = new Check("SheetsTest");

    private static void sheet() {
        LampWires x = new LampWires();
        C.due("sheet(-1, 0, 1)", x.sheet(-1, 0, 1), -1);
        C.due("sheet(4, 0, 1)", x.sheet(4, 0, 1), -1);
        C.due("sheet(0, -1, 1)", x.sheet(0, -1, 1), -1);
        C.due("sheet(0, 3, 1)", x.sheet(0, 3, 1), -1);
        C.due("sheet(0, 0, 41)", x.sheet(0, 0, 41), -1);
        C.due("sheet(0, 0, -1)", x.sheet(0, 0, -1), -14);
        C.due("sheet(0, 0, least)", x.sheet(0, 0, Integer.MIN_VALUE), -14);
        C.due("BAD before SIZE", x.sheet(4, 0, -1), -1);
        C.due("still nothing", x.count(9), -4);
        C.due("sheet(0, 0, 40)", x.sheet(0, 0, 40), 1);
        C.due("forty", x.count(9), 40);
        C.due("refused", x.sheet(0, 0, -1), -14);
        C.due("forty still", x.count(9), 40);
        x.lay(0, 0, 9);
        C.due("anew", x.sheet(0, 0, 1), 1);
        x.lamp(0, 1, 1);
        C.due("its cell is 0", x.levels(0, 0, 0), 0);
        C.due("no cells", x.sheet(0, 2, 0), 1);
        C.due("count(9)", x.count(9), 0);
        C.due("no cell 0", x.lay(0, 0, 0), -12);
    }

    private static void lay() {
        LampWires x = new LampWires();
        x.lamp(0, 1, 1);
        C.due("nothing", x.lay(3, 0, 1), -11);
        C.due("lay(4, 0, 1)", x.lay(4, 0, 1), -1);
        C.due("lay(-1, 0, 1)", x.lay(-1, 0, 1), -1);
        x.sheet(3, 0, 40);
        x.sheet(2, 1, 40);
        x.sheet(1, 2, 40);
        C.due("lay(3, 40, 1)", x.lay(3, 40, 1), -12);
        C.due("lay(3, -1, 1)", x.lay(3, -1, 1), -12);
        C.due("lay(3, 39, 256 + 7)", x.lay(3, 39, 263), 1);
        C.due("a byte's lowest bits", x.levels(3, 0, 39), 1);
        C.due("seven", x.lampOf(0, 4), 7);
        C.due("a byte's sign", x.lay(3, 0, 255), 1);
        C.due("is no level", x.levels(3, 0, 0), -20);
        C.due("a short", x.lay(2, 0, 65536 + 8), 1);
        C.due("a short's lowest bits", x.levels(2, 1, 0), 1);
        C.due("eight", x.lampOf(0, 4), 8);
        x.lay(2, 0, 264);
        C.due("264 stays in a short", x.levels(2, 1, 0), -20);
        x.lay(1, 0, 65536 + 8);
        C.due("an int keeps all", x.levels(1, 2, 0), -20);
    }

    private static void levels() {
        LampWires x = new LampWires();
        for (int i = 0; i < 3; i++) {
            x.lamp(i, i + 1, 1);
        }
        x.level(2, 4);
        C.due("levels(4, 0, 0)", x.levels(4, 0, 0), -1);
        C.due("levels(-1, 0, 0)", x.levels(-1, 0, 0), -1);
        C.due("levels(0, 3, 0)", x.levels(0, 3, 0), -1);
        C.due("levels(0, -1, 0)", x.levels(0, -1, 0), -1);
        C.due("nothing", x.levels(0, 0, 0), -11);
        x.sheet(0, 1, 5);
        C.due("as bytes", x.levels(0, 0, 99), -13);
        C.due("as ints", x.levels(0, 2, 0), -13);
        for (int i = 0; i < 5; i++) {
            x.lay(0, i, 11 + i);
        }
        C.due("from 2 on", x.levels(0, 1, 2), 3);
        C.due("sum", x.count(7), 13 + 14 + 15);
        C.due("again", x.levels(0, 1, 2), 0);
        C.due("beyond the end", x.levels(0, 1, 3), -12);
        C.due("ahead of the beginning", x.levels(0, 1, -1), -12);
        C.due("far", x.levels(0, 1, Integer.MAX_VALUE), -12);
        C.due("far below", x.levels(0, 1, Integer.MIN_VALUE), -12);
        x.lay(0, 3, 16);
        C.due("no level for lamp 1", x.levels(0, 1, 2), -21);
        C.due("no level comes before the end", x.levels(0, 1, 3), -20);
        x.lay(0, 3, -1);
        C.due("none below 0", x.levels(0, 1, 1), -22);
        C.due("none changed", x.count(7), 13 + 14 + 15);
        x.wires(3);
        C.due("no lamps, any place", x.levels(0, 1, -9), 0);
        C.due("no lamps, another lane", x.levels(0, 2, 0), -13);
    }

    private static void count() {
        LampWires x = new LampWires();
        C.due("count(-1)", x.count(-1), -1);
        C.due("count(10)", x.count(10), -1);
        for (int i = 0; i < 3; i++) {
            x.lamp(i, i + 1, 1);
            x.level(i, 5 + i);
        }
        x.hurt(0, 1);
        x.hurt(1, 2);
        x.hurt(2, 2);
        x.supply(7);
        Check.tell(x, "dark 1;dark 1;dark 1;");
        x.seen(0, 0);
        x.seen(2, 1);
        x.feed(1);
        x.sheet(0, 0, 12);
        int[] due = {4, 3, 7, 1, 2, 3, 2, 18, 8, 12};
        for (int what = 0; what < due.length; what++) {
            C.due("count(" + what + ")", x.count(what), due[what]);
        }
    }

    public static void main(String[] args) {
        sheet();
        lay();
        levels();
        count();
        C.finish();
    }
}
