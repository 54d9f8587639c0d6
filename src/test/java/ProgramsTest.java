/** Promises 20 to 27: feed, end, program, fault, line, round, shows, at. */
public final class ProgramsTest {
    private static final Check C = new Check("ProgramsTest");

    private static void tape() {
        LampWires x = new LampWires();
        for (int i = 1; i <= 25; i++) {
            C.due("feed " + i, x.feed(0x2020202020202020L), 8 * i);
        }
        C.due("feed 26", x.feed(0), -3);
        C.due("end(201)", x.end(201), -1);
        C.due("end(-1)", x.end(-1), -1);
        C.due("end(193)", x.end(193), 200);
        C.due("201 bytes are too many", x.feed(0), -3);
        C.due("end(192)", x.end(192), 193);
        C.due("200 bytes are not", x.feed(0x2020202020202020L), 200);
        C.due("end(193) to blanks alone", x.end(193), 200);
        C.due("blanks alone", x.program(), 0);
        C.due("the tape is empty", x.count(8), 0);
        C.due("end(1) of none", x.end(1), -1);
        C.due("the highest first", x.feed(0x6461726b20373b7aL), 8);
        C.due("end(7)", x.end(7), 8);
        C.due("dark 7;", x.program(), 1);
        C.due("its ticks", x.line(0, 1), 7);
    }

    private static void refused(String text, int fault, int place) {
        LampWires x = new LampWires();
        x.lamp(0, 1, 1);
        C.due("told first", Check.tell(x, "high 0 low 1 for 2;"), 1);
        x.seen(0, 1);
        C.due("'" + text + "'", Check.tell(x, text), -10 - place);
        C.due("fault of '" + text + "'", x.fault(), fault);
        C.due("the tape is empty", x.count(8), 0);
        C.due("what was told stays", x.line(0, 0), 7);
        C.due("its lines", x.count(5), 1);
        C.due("what is seen, too", x.line(0, 4), 1);
        C.due("then a right one", Check.tell(x, "dark 60;"), 1);
        C.due("no fault any more", x.fault(), 0);
        C.due("nothing is seen", x.line(0, 4), -4);
    }

    private static void faults() {
        refused("dark 1; Dark", 1, 8);
        refused("dark\t1;", 1, 4);
        refused("dark 1;" + (char) 0, 1, 7);
        refused("dark 1;" + (char) 200, 1, 7);
        refused("darks 1;", 1, 0);
        refused("highlow", 1, 0);
        refused("bark 1;", 1, 0);
        refused("sigh 1", 1, 0);
        refused("high 0 tow", 1, 7);
        refused("high 0 low 1 nor", 1, 13);
        refused("zz", 1, 0);
        refused("a", 1, 0);
        refused("dark 001;", 1, 5);
        refused("high 0 low 1 for 100;", 1, 17);
        refused("123", 1, 0);
        refused("dark lit", 1, 5);
        refused("12", 2, 0);
        refused(";", 2, 0);
        refused("for", 2, 0);
        refused("dark 1;;", 2, 7);
        refused("dark", 2, 4);
        refused("dark   ", 2, 7);
        refused("dark 1", 2, 6);
        refused("dark 1 2;", 2, 7);
        refused("dark high", 2, 5);
        refused("high", 2, 4);
        refused("high ;", 2, 5);
        refused("high 0 ;", 2, 7);
        refused("high 0 high", 2, 7);
        refused("high 0 low for", 2, 11);
        refused("high 0 low 1 ;", 2, 13);
        refused("high 0 low 1 low", 2, 13);
        refused("high 0 low 1 for;", 2, 16);
        refused("high 0 low 1 for 1 dark", 2, 19);
        refused("dark 0;", 3, 5);
        refused("dark 61;", 3, 5);
        refused("dark 00", 3, 5);
        refused("high 4", 3, 5);
        refused("high 0 low 99 0", 3, 11);
        refused("high 0 low 1 for 0", 3, 17);
        refused("high 0 00", 4, 7);
        refused("high 2 1 low 3 1", 4, 15);
        refused("high 0 low 1 1", 4, 13);
        String twelve = "dark 1;".repeat(12);
        refused(twelve + "dark 1;", 5, 84);
        refused(twelve + " high", 5, 85);
        refused(twelve + "low", 2, 84);
        refused(twelve + "lit", 1, 84);
        refused(twelve + "7", 2, 84);
    }

    private static void taken() {
        LampWires x = new LampWires();
        C.due("twelve", Check.tell(x, " dark 1 ; ".substring(1).repeat(12)), 12);
        C.due("no blanks", Check.tell(x, "high0 1low2for9;dark09;"), 2);
        C.due("TURN", x.line(0, 0), 1 + 3 + 18);
        C.due("09", x.line(1, 1), 9);
        C.due("dark: TURN 0", x.line(1, 0), 0);
        C.due("a new line has its own wires", Check.tell(x, "high 3 low 2 for 1;high 3 low 2 for 60;"), 2);
        C.due("TURN of 3, 2", x.line(1, 0), 27 + 18);
        x.wires(2);
        C.due("wire 2 is none now", Check.tell(x, "high 0 low 2 for 1;"), -21);
        C.due("out of bounds", x.fault(), 3);
    }

    private static LampWires told() {
        LampWires x = new LampWires();
        x.lamp(0, 1, 2);
        x.lamp(0, 2, 2);
        x.lamp(3, 1, 2);
        C.due("told", Check.tell(x, "dark 3;high 0 low 1 2 for 4;dark 7;high 0 3 low 1 for 5;dark 2;"), 5);
        return x;
    }

    private static void line() {
        LampWires x = told();
        C.due("line(1, 0)", x.line(1, 0), 1 + 6 + 18);
        C.due("line(1, 1)", x.line(1, 1), 4);
        C.due("line(1, 2)", x.line(1, 2), 3);
        C.due("line(4, 2)", x.line(4, 2), 19);
        C.due("line(1, 3)", x.line(1, 3), 3);
        C.due("line(3, 3)", x.line(3, 3), 5);
        C.due("line(1, 4)", x.line(1, 4), -4);
        C.due("line(1, 5)", x.line(1, 5), -1);
        C.due("line(1, -1)", x.line(1, -1), -1);
        C.due("line(5, 0)", x.line(5, 0), -1);
        C.due("line(-1, 0)", x.line(-1, 0), -1);
        x.hurt(0, 1);
        C.due("line(1, 3) as lamps are now", x.line(1, 3), 2);
    }

    private static void round() {
        LampWires x = told();
        C.due("round(0)", x.round(0), 21);
        C.due("round(1)", x.round(1), 7);
        C.due("round(2)", x.round(2), 0);
        C.due("round(3)", x.round(3), 0);
        C.due("round(4)", x.round(4), -1);
        C.due("round(-1)", x.round(-1), -1);
        x.hurt(2, 2);
        C.due("one short", x.round(3), 1);
        Check.tell(x, "high 0 low 1 2 for 4;high 0 low 1 for 4;");
        C.due("in all", x.round(2), 1);
        Check.tell(x, "");
        C.due("no lines: in all", x.round(2), 0);
    }

    private static void shows() {
        LampWires x = told();
        C.due("lamp 0 lit", x.shows(0, 0), 9);
        C.due("lamp 0 dark", x.shows(0, 1), 7);
        C.due("lamp 1 dark, round the end", x.shows(1, 1), 7 + 5 + 2 + 3);
        C.due("lamp 2 dark, round the end", x.shows(2, 1), 2 + 3 + 4 + 7);
        C.due("light of lamp 0", x.shows(0, 2), 9);
        C.due("by two", x.shows(0, 3), 2);
        C.due("light of lamp 1", x.shows(1, 2), 2);
        C.due("by one", x.shows(1, 3), 1);
        C.due("shows(0, 4)", x.shows(0, 4), -1);
        C.due("shows(0, -1)", x.shows(0, -1), -1);
        C.due("shows(3, 0)", x.shows(3, 0), -1);
        x.hurt(1, 1);
        C.due("never: lit", x.shows(1, 0), 0);
        C.due("never: dark", x.shows(1, 1), -4);
        C.due("never: light", x.shows(1, 2), 0);
        C.due("never: by one", x.shows(1, 3), 1);
        Check.tell(x, "high 0 low 1 for 4;");
        C.due("always: dark", x.shows(0, 1), 0);
        Check.tell(x, "");
        C.due("no lines: dark", x.shows(0, 1), -4);
        C.due("no lines: lit", x.shows(0, 0), 0);
        C.due("no lines: by one", x.shows(0, 3), 1);
    }

    private static void at() {
        LampWires x = told();
        C.due("at(2)", x.at(2), 0);
        C.due("at(3)", x.at(3), 3);
        C.due("at(6)", x.at(6), 3);
        C.due("at(7)", x.at(7), 0);
        C.due("at(14)", x.at(14), 5);
        C.due("at(19)", x.at(19), 0);
        C.due("at(21 + 14)", x.at(35), 5);
        C.due("at(9999)", x.at(9999), 3);
        C.due("at(10000)", x.at(10000), -1);
        C.due("at(-1)", x.at(-1), -1);
        Check.tell(x, "high 0 low 1 for 1;");
        C.due("a round of one tick", x.at(77), 1);
        Check.tell(x, " ");
        C.due("no lines", x.at(0), -2);
        C.due("BAD before STATE", x.at(10000), -1);
    }

    public static void main(String[] args) {
        tape();
        faults();
        taken();
        line();
        round();
        shows();
        at();
        C.finish();
    }
}
