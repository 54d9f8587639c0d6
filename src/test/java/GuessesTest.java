/** Promises 28 to 31: seen, likely, tells, would. */
public final class GuessesTest {
    private static final Check C = new Check("GuessesTest");

    /** Two lamps in a row from wire 0 over 1 to 2, one straight from 0 to 2, each seen by a line of its own. */
    private static LampWires three() {
        LampWires x = new LampWires();
        x.lamp(0, 1, 1);
        x.lamp(1, 2, 1);
        x.lamp(0, 2, 4);
        C.due("told", Check.tell(x, "high 0 low 1 for 1;high 1 low 2 for 1;high 0 low 2 for 1;"), 3);
        return x;
    }

    private static void seen() {
        LampWires x = three();
        C.due("seen(0, 7)", x.seen(0, 7), -4);
        C.due("seen(0, 0)", x.seen(0, 0), 7);
        C.due("line(0, 4)", x.line(0, 4), 0);
        C.due("count(6)", x.count(6), 1);
        C.due("seen(0, 8)", x.seen(0, 8), -10);
        C.due("seen(0, -1)", x.seen(0, -1), -10);
        C.due("seen(3, 0)", x.seen(3, 0), -10);
        C.due("seen(-1, 0)", x.seen(-1, 0), -10);
        C.due("refused: as before", x.line(0, 4), 0);
        C.due("seen(0, NONE)", x.seen(0, -4), 0);
        C.due("nothing any more", x.count(6), 0);
        C.due("seen(0, NONE) again", x.seen(0, -4), -4);
    }

    private static void guess(LampWires x, int i, int first, int second) {
        C.due("guess " + i + ", first", x.likely(1000 + i), first);
        C.due("guess " + i + ", second", x.likely(2000 + i), second);
    }

    private static void likely() {
        LampWires x = three();
        C.due("nothing seen: faults", x.likely(0), 0);
        C.due("nothing seen: guesses", x.likely(1), 1);
        guess(x, 0, -4, -4);
        C.due("likely(1001)", x.likely(1001), -1);
        C.due("likely(2001)", x.likely(2001), -1);
        C.due("likely(2)", x.likely(2), -1);
        C.due("likely(999)", x.likely(999), -1);
        C.due("likely(3000)", x.likely(3000), -1);
        C.due("likely(-1)", x.likely(-1), -1);
        C.due("likely(least)", x.likely(Integer.MIN_VALUE), -1);
        x.seen(2, 2);
        C.due("only lamp 1 on the way round: one fault", x.likely(0), 1);
        C.due("lamp 0 shorted alone does it", x.likely(1), 1);
        guess(x, 0, 1, -4);
        x.seen(2, 4);
        C.due("the straight one: a lamp of the row broken", x.likely(1), 2);
        guess(x, 0, 0, -4);
        guess(x, 1, 2, -4);
        x.seen(0, 0);
        x.seen(1, 0);
        C.due("both of the row: two faults", x.likely(0), 2);
        // A shorted one of the row would let the straight one glow in the other's line.
        C.due("both broken", x.likely(1), 1);
        guess(x, 0, 0, 2);
        C.due("no second guess", x.likely(1001), -1);
        x.seen(2, 7);
        C.due("it can not be", x.likely(0), -4);
        C.due("no guess", x.likely(1), 0);
        C.due("no first", x.likely(1000), -1);
        x.seen(0, 1);
        x.seen(1, 2);
        x.seen(2, 3);
        C.due("as it is", x.likely(0), 0);
        x.hurt(0, 1);
        C.due("a guess takes all other lamps as sound", x.likely(0), 0);
        x.supply(1);
        C.due("what SUPPLY changes is seen anew", x.likely(0), -4);
    }

    private static void apart() {
        LampWires x = new LampWires();
        x.lamp(0, 1, 1);
        x.lamp(2, 3, 1);
        C.due("told", Check.tell(x, "high 0 low 1 for 1;high 2 low 3 for 1;"), 2);
        x.seen(0, 0);
        C.due("one lamp dark", x.likely(1), 2);
        x.seen(1, 0);
        C.due("both dark: faults", x.likely(0), 2);
        C.due("each broken or shorted", x.likely(1), 4);
        guess(x, 0, 0, 2);
        guess(x, 1, 0, 3);
        guess(x, 2, 1, 2);
        guess(x, 3, 1, 3);
        x.seen(0, 1);
        x.seen(1, 1);
        C.due("another's light", x.likely(0), -4);
        C.due("a new program: nothing is seen", Check.tell(x, "high 0 low 1 for 1;"), 1);
        C.due("so no fault", x.likely(0), 0);
        x.seen(0, 0);
        C.due("one", x.likely(0), 1);
        C.due("its guesses", x.likely(1), 2);
        C.due("two faults tell", x.tells(0), 2);
        x.lamp(3, 1, 1);
        x.lamp(0, 3, 1);
        C.due("a way round lamp 0: it must be shorted", x.likely(1), 1);
        guess(x, 0, 1, -4);
        // Lamp 0 either way, and each lamp of the way round shorted, which makes that as short as lamp 0's.
        C.due("what tells is weighed anew", x.tells(0), 4);
        x.seen(0, 5);
        C.due("lamps 0 and 2: one fault", x.likely(0), 1);
        guess(x, 0, 7, -4);
    }

    private static void sixteen() {
        LampWires x = new LampWires();
        x.wires(6);
        for (int i = 0; i < 16; i++) {
            x.lamp(i % 4, 4 + i / 8, 1);
            x.lamp(4 + i % 2, i / 4, 1);
        }
        C.due("sixteen lamps", x.count(1), 16);
        C.due("told", Check.tell(x, "high 0 1 2 3 low 4 5 for 1;"), 1);
        int all = x.line(0, 3);
        C.due("eight glow", Integer.bitCount(all), 8);
        x.seen(0, 0);
        C.due("a short: one fault", x.likely(0), 1);
        C.due("of each that lies between, or leads back", x.likely(1), 16);
        x.seen(0, all & all - 1);
        C.due("one dark: broken", x.likely(1), 1);
        int others = all & all - 1;
        x.seen(0, others & others - 1);
        C.due("two dark: both broken", x.likely(0), 2);
        C.due("one guess", x.likely(1), 1);
        x.seen(0, all ^ 65535);
        C.due("the others: it can not be", x.likely(0), -4);
    }

    private static void tells() {
        LampWires x = three();
        // Lamp 2's being broken shows nowhere; shorted it makes the third line a short.
        C.due("tells(0)", x.tells(0), 5);
        C.due("tells(1)", x.tells(1), 4);
        C.due("tells(2)", x.tells(2), -1);
        C.due("tells(-1)", x.tells(-1), -1);
        x.hurt(0, 1);
        C.due("all else is taken as sound", x.tells(0), 5);
        Check.tell(x, "high 0 low 1 for 1;");
        C.due("one line: lamps 1, 2 broken change nothing", x.tells(0), 2);
        C.due("the first that changes nothing", x.tells(1), 2);
        Check.tell(x, "");
        C.due("no lines: none", x.tells(0), 0);
        C.due("no lines: the first", x.tells(1), 0);
        x.wires(2);
        C.due("no lamps", x.tells(1), -4);
        x.lamp(0, 1, 1);
        Check.tell(x, "high 0 low 1 for 1;");
        C.due("all tell: how many", x.tells(0), 2);
        C.due("all tell: none is silent", x.tells(1), -4);
    }

    private static void would() {
        LampWires x = three();
        int turn = 1 + 18;
        C.due("all sound", x.would(turn, -4, -4), 3);
        C.due("0 broken", x.would(turn, 0, -4), 4);
        C.due("0 shorted", x.would(turn, 1, -4), 2);
        C.due("0 and 1 shorted", x.would(turn, 1, 3), 0);
        C.due("the greater first", x.would(turn, 3, 0), 4);
        C.due("one as the second", x.would(turn, -4, 2), 4);
        C.due("of one lamp both", x.would(turn, 2, 3), -1);
        C.due("one twice", x.would(turn, 2, 2), -1);
        C.due("no such fault", x.would(turn, 6, -4), -1);
        C.due("no such second fault", x.would(turn, -4, 6), -1);
        C.due("-1 is none", x.would(turn, -1, -4), -1);
        C.due("-5 is none", x.would(turn, -4, -5), -1);
        C.due("no such turn", x.would(81, -4, -4), -1);
        C.due("no turn below 0", x.would(-1, -4, -4), -1);
        x.hurt(1, 1);
        C.due("as if all others were sound", x.would(turn, -4, -4), 3);
        C.due("the lamps stay as they are", x.glow(turn, 0), 4);
    }

    public static void main(String[] args) {
        seen();
        likely();
        apart();
        sixteen();
        tells();
        would();
        C.finish();
    }
}
