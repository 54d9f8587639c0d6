import java.util.ArrayList;
import java.util.LinkedHashMap;
import java.util.List;
import java.util.Map;
import java.util.function.ToIntFunction;

/** What refused calls answer, that they change nothing, and how long an object may be used. */
final class EdgesOfRefusals {
    static void look(Sentences s) {
        s.of("What it is");
        lastCall(s);
        s.of("Terms");
        answers(s);
        firstThatFits(s);
        changesNothing(s);
        fullChangesNothing(s);
        tape(s);
    }

    private static void lastCall(Sentences s) {
        LampWires x = s.says("An object is used for at most 512 calls after it has been made");
        s.due(x.lamp(0, 1, 1), 0);
        for (int call = 2; call <= 511; call++) {
            s.due(x.level(0, call % 16), call == 2 ? 0 : (call - 1) % 16);
        }
        s.due(x.lampOf(0, 4), 511 % 16);
    }

    private static void answers(Sentences s) {
        LampWires x = s.says("Answers: BAD -1 (a number is not as told, there is no such WIRE, LAMP, LINE, SHEET)");
        s.due(LampWires.BAD, -1);
        s.due(x.supply(31), -1);
        s.due(x.lamp(4, 0, 1), -1);
        s.due(x.lampOf(0, 0), -1);
        s.due(x.line(0, 0), -1);
        s.due(x.lay(4, 0, 0), -1);
        x = s.says("STATE -2 (as told)");
        s.due(LampWires.STATE, -2);
        s.due(x.at(0), -2);
        x = s.says("FULL -3");
        s.due(LampWires.FULL, -3);
        for (int i = 0; i < 25; i++) {
            x.feed(0);
        }
        s.due(x.feed(0), -3);
        x = s.says("NONE -4 (there is none)");
        s.due(LampWires.NONE, -4);
        s.due(x.between(0, 1), -4);
        s.due(x.count(9), -4);
    }

    private static void firstThatFits(Sentences s) {
        LampWires x = s.says("the first that fits");
        x.lamp(0, 1, 1);
        s.due(x.lamp(0, 1, 10), -1);
        s.due(x.at(10000), -1);
        x.hurt(0, 1);
        x.level(0, 1);
        s.due(x.frameTurn(1, -1), -1);
        s.due(x.light(1, 0), -1);
        s.due(x.light(0, 2), -1);
        s.due(x.uneven(2), -1);
        s.due(x.plan(2), -1);
        s.due(x.lay(4, 99, 0), -1);
        s.due(x.sheet(4, 0, -1), -1);
        s.due(x.levels(0, 3, 0), -1);
        x.wires(6);
        for (int i = 0; i < 16; i++) {
            x.lamp(i % 3, 3 + i / 3 % 3, 1);
            x.lamp(3 + i % 3, i / 3 % 3, 1);
        }
        s.due(x.count(1), 16);
        s.due(x.lamp(0, 3, 1), -2);
        s.due(x.lamp(0, 3, 0), -1);
        s.due(x.lamp(0, 1, 0), -1);
        s.due(x.lamp(0, 1, 1), -3);
    }

    /** An object of which everything is told that can be. */
    private static LampWires busy() {
        LampWires x = new LampWires();
        x.wires(3);
        x.supply(6);
        x.lamp(0, 1, 2);
        x.lamp(1, 2, 3);
        x.lamp(2, 0, 4);
        x.lamp(0, 2, 5);
        x.hurt(1, 1);
        x.hurt(2, 2);
        x.level(0, 5);
        x.level(3, 9);
        Check.tell(x, "high 0 low 1 for 3;dark 4;high 0 1 low 2 for 60;");
        x.seen(0, 1);
        x.seen(2, 0);
        Check.tell(x, "dark 0;");
        for (int k = 0; k < 3; k++) {
            x.sheet(k, k, 5);
            for (int i = 0; i < 5; i++) {
                x.lay(k, i, 3 * k + i);
            }
        }
        Check.text(x, "dark 9;  ");
        return x;
    }

    /** All that an object answers; what its sheets and its tape hold is asked for in the end, since that changes it. */
    private static List<Integer> told(LampWires x) {
        List<Integer> all = new ArrayList<>();
        for (int what = 0; what < 10; what++) {
            all.add(x.count(what));
        }
        all.add(x.fault());
        for (int l = 0; l < x.count(1); l++) {
            for (int what = 0; what < 5; what++) {
                all.add(x.lampOf(l, what));
            }
        }
        for (int turn = 0; turn < 27; turn++) {
            all.add(x.glow(turn, 0));
            all.add(x.glow(turn, 1));
        }
        for (int k = 0; k < x.count(5); k++) {
            for (int what = 0; what < 5; what++) {
                all.add(x.line(k, what));
            }
        }
        for (int what = 0; what < 2; what++) {
            all.add(x.likely(what));
            all.add(x.tells(what));
            all.add(x.plan(what));
        }
        all.add(x.shown(16));
        for (int k = 0; k < 4; k++) {
            all.add(x.levels(k, k % 3, 0));
            all.add(x.lampOf(0, 4));
            all.add(x.levels(k, k % 3, 1));
            all.add(x.lampOf(3, 4));
            all.add(x.lay(k, 4, 0));
            all.add(x.lay(k, 5, 0));
        }
        all.add(x.program());
        all.add(x.line(0, 1));
        return all;
    }

    private static Map<String, ToIntFunction<LampWires>> refused() {
        Map<String, ToIntFunction<LampWires>> all = new LinkedHashMap<>();
        all.put("wires(1)", x -> x.wires(1));
        all.put("wires(7)", x -> x.wires(7));
        all.put("supply(0)", x -> x.supply(0));
        all.put("supply(31)", x -> x.supply(31));
        all.put("lamp(1, 0, 0)", x -> x.lamp(1, 0, 0));
        all.put("lamp(1, 0, 10)", x -> x.lamp(1, 0, 10));
        all.put("lamp(1, 1, 1)", x -> x.lamp(1, 1, 1));
        all.put("lamp(1, 3, 1)", x -> x.lamp(1, 3, 1));
        all.put("lamp(0, 1, 9)", x -> x.lamp(0, 1, 9));
        all.put("hurt(0, 3)", x -> x.hurt(0, 3));
        all.put("hurt(4, 1)", x -> x.hurt(4, 1));
        all.put("glow(27, 0)", x -> x.glow(27, 0));
        all.put("turns(4)", x -> x.turns(4));
        all.put("alone(4)", x -> x.alone(4));
        all.put("astray(4)", x -> x.astray(4));
        all.put("frame(16)", x -> x.frame(16));
        all.put("frameTurn(16, 0)", x -> x.frameTurn(16, 0));
        all.put("shown(17)", x -> x.shown(17));
        all.put("level(0, 16)", x -> x.level(0, 16));
        all.put("level(0, -1)", x -> x.level(0, -1));
        all.put("level(4, 1)", x -> x.level(4, 1));
        all.put("end(10)", x -> x.end(10));
        all.put("end(-1)", x -> x.end(-1));
        all.put("seen(0, 16)", x -> x.seen(0, 16));
        all.put("seen(3, 0)", x -> x.seen(3, 0));
        all.put("likely(2)", x -> x.likely(2));
        all.put("tells(2)", x -> x.tells(2));
        all.put("would(7, 0, 1)", x -> x.would(7, 0, 1));
        all.put("sheet(0, 0, 41)", x -> x.sheet(0, 0, 41));
        all.put("sheet(0, 0, -1)", x -> x.sheet(0, 0, -1));
        all.put("sheet(0, 3, 1)", x -> x.sheet(0, 3, 1));
        all.put("sheet(4, 0, 1)", x -> x.sheet(4, 0, 1));
        all.put("lay(3, 0, 1)", x -> x.lay(3, 0, 1));
        all.put("lay(0, 5, 1)", x -> x.lay(0, 5, 1));
        all.put("lay(0, -1, 1)", x -> x.lay(0, -1, 1));
        all.put("levels(3, 0, 0)", x -> x.levels(3, 0, 0));
        all.put("levels(0, 1, 0)", x -> x.levels(0, 1, 0));
        all.put("levels(0, 0, 2)", x -> x.levels(0, 0, 2));
        return all;
    }

    private static void changesNothing(Sentences s) {
        s.says("what is refused changes nothing");
        List<Integer> untouched = told(busy());
        for (Map.Entry<String, ToIntFunction<LampWires>> call : refused().entrySet()) {
            LampWires x = busy();
            s.due(call.getValue().applyAsInt(x) < 0 ? 1 : 0, 1);
            List<Integer> now = told(x);
            boolean alike = now.equals(untouched);
            if (!alike) {
                System.out.println("EdgesTest: " + call.getKey() + " changed " + untouched + " to " + now);
            }
            s.due(alike ? 1 : 0, 1);
        }
    }

    private static void fullChangesNothing(Sentences s) {
        LampWires x = s.says("what is refused changes nothing");
        x.wires(6);
        for (int i = 0; i < 16; i++) {
            x.lamp(i % 3, 3 + i / 3 % 3, 1);
            x.lamp(3 + i % 3, i / 3 % 3, 1);
        }
        int turns = x.turns(1);
        s.due(x.lamp(0, 1, 1), -3);
        s.due(x.count(1), 16);
        s.due(x.between(0, 1), -4);
        s.due(x.turns(1), turns);
        for (int i = 0; i < 24; i++) {
            x.feed(0x2020202020202020L);
        }
        x.feed(0x6461726b20373b20L);
        s.due(x.feed(0), -3);
        s.due(x.count(8), 200);
        s.due(x.program(), 1);
        s.due(x.line(0, 1), 7);
    }

    private static void tape(Sentences s) {
        LampWires x = s.says("(but THE TAPE, as told)");
        s.due(Check.tell(x, "dark 5;"), 1);
        Check.text(x, "dark 7; high");
        s.due(x.count(8), 12);
        s.due(x.program(), -22);
        s.due(x.count(8), 0);
        s.due(x.count(5), 1);
        s.due(x.line(0, 1), 5);
    }
}
