/** The terms about the tape, its tokens, its lines and their faults. */
final class EdgesOfTexts {
    static void look(Sentences s) {
        s.of("Terms");
        tape(s);
        tokens(s);
        lines(s);
        bounds(s);
        firstMet(s);
        noTokens(s);
        misplaced(s);
        numbers(s);
        tooMany(s);
    }

    /** A text that is refused: with which fault, and at which place. */
    private static void refuses(Sentences s, String text, int fault, int place) {
        LampWires x = new LampWires();
        s.due(Check.tell(x, text), -10 - place);
        s.due(x.fault(), fault);
    }

    private static void takes(Sentences s, String text, int lines) {
        LampWires x = new LampWires();
        s.due(Check.tell(x, text), lines);
        s.due(x.fault(), 0);
    }

    private static void tape(Sentences s) {
        LampWires x = s.says("THE TAPE has 200 bytes, places from 0.");
        for (int i = 1; i <= 25; i++) {
            s.due(x.feed(0x2020202020202020L), 8 * i);
        }
        s.due(x.feed(0x2020202020202020L), -3);
        s.due(x.program(), 0);
        takes(s, " ".repeat(193) + "dark 7;", 1);
        refuses(s, "?", 1, 0);
        refuses(s, " ".repeat(199) + "?", 1, 199);
    }

    private static void tokens(Sentences s) {
        s.says("TOKENS, each as long as may be");
        takes(s, "high0 1low2 3for4;dark5;", 2);
        refuses(s, "highlow", 1, 0);
        refuses(s, "dark 1; darkdark 1;", 1, 8);
        refuses(s, "high 0 1 low 2 for 123;", 1, 19);
        s.says("blanks (32) between");
        takes(s, "   dark   1   ;   dark  2;  ", 2);
        takes(s, "dark1;dark2;", 2);
        takes(s, "        ", 0);
        refuses(s, "da rk 1;", 1, 0);
        refuses(s, "dark 1 1;", 2, 7);
        refuses(s, "dark" + (char) 31 + "1;", 1, 4);
        refuses(s, "dark" + (char) 33 + "1;", 1, 4);
        refuses(s, "dark" + (char) 0 + "1;", 1, 4);
        refuses(s, "dark" + (char) 160 + "1;", 1, 4);
        s.says("NAMES (a .. z)");
        refuses(s, "a", 1, 0);
        refuses(s, "z", 1, 0);
        refuses(s, "darka 1;", 1, 0);
        refuses(s, "darkz 1;", 1, 0);
        refuses(s, "dark`1;", 1, 4);
        refuses(s, "dark{1;", 1, 4);
        refuses(s, "darK 1;", 1, 0);
        refuses(s, "dark" + (char) 225 + " 1;", 1, 4);
        s.says("NUMBERS (1 or 2 figures)");
        takes(s, "dark 1;dark 9;dark 01;dark 09;dark 10;dark 60;", 6);
        refuses(s, "dark /;", 1, 5);
        refuses(s, "dark :;", 1, 5);
        refuses(s, "dark 1/;", 1, 6);
        refuses(s, "dark 1:;", 1, 6);
        refuses(s, "dark -1;", 1, 5);
        refuses(s, "dark 100;", 1, 5);
        refuses(s, "dark 001;", 1, 5);
        s.says("one ; .");
        takes(s, "dark 1;", 1);
        takes(s, "dark 1 ;", 1);
        refuses(s, "dark 1;;", 2, 7);
        refuses(s, ";", 2, 0);
        refuses(s, "dark 1<", 1, 6);
    }

    private static void lines(Sentences s) {
        s.says("text: { line }");
        takes(s, "", 0);
        takes(s, "dark 1;", 1);
        takes(s, "dark 1;".repeat(12), 12);
        s.says("line: high NUMBER { NUMBER } low NUMBER { NUMBER } for NUMBER ;");
        takes(s, "high 0 low 1 for 1;", 1);
        takes(s, "high 0 1 2 low 3 for 1;", 1);
        takes(s, "high 0 low 3 2 1 for 1;", 1);
        refuses(s, "high low 1 for 1;", 2, 5);
        refuses(s, "high 0 for 1;", 2, 7);
        refuses(s, "high 0 low for 1;", 2, 11);
        refuses(s, "high 0 low 1 for;", 2, 16);
        refuses(s, "high 0 low 1;", 2, 12);
        refuses(s, "high 0 low 1 for 1 2;", 2, 19);
        refuses(s, "low 0 high 1 for 1;", 2, 0);
        refuses(s, "high 0 low 1 low 2 for 1;", 2, 13);
        s.says("| dark NUMBER ;");
        takes(s, "dark 1;", 1);
        refuses(s, "dark;", 2, 4);
        refuses(s, "dark 1 2;", 2, 7);
        refuses(s, "dark 1 dark", 2, 7);
    }

    private static void bounds(Sentences s) {
        s.says("high, low: WIRES (below W)");
        for (int w = 2; w <= 6; w++) {
            LampWires x = new LampWires();
            x.wires(w);
            s.due(Check.tell(x, "high 0 low " + (w - 1) + " for 1;"), 1);
            s.due(Check.tell(x, "high " + (w - 1) + " low 0 for 1;"), 1);
            s.due(Check.tell(x, "high 0 low " + w + " for 1;"), -21);
            s.due(x.fault(), 3);
            s.due(Check.tell(x, "high " + w + " low 0 for 1;"), -15);
            s.due(x.fault(), 3);
            s.due(Check.tell(x, "high 0" + (w - 1) + " low 00 for 1;"), 1);
        }
        s.says("for, dark: ticks (1 to 60).");
        takes(s, "high 0 low 1 for 1;high 0 low 1 for 60;", 2);
        takes(s, "dark 1;dark 60;", 2);
        refuses(s, "high 0 low 1 for 0;", 3, 17);
        refuses(s, "high 0 low 1 for 61;", 3, 17);
        refuses(s, "dark 0;", 3, 5);
        refuses(s, "dark 00;", 3, 5);
        refuses(s, "dark 61;", 3, 5);
        refuses(s, "dark 99;", 3, 5);
    }

    private static void firstMet(Sentences s) {
        s.says("FAULTS, the first met as it is read (a TOKEN is read when the one before has been taken)");
        // A number out of its bounds is met before the token behind it is read.
        refuses(s, "dark 0 ?", 3, 5);
        refuses(s, "dark 61", 3, 5);
        refuses(s, "high 9 ?", 3, 5);
        refuses(s, "high 0 0 lit", 4, 7);
        refuses(s, "dark 1 dark 0;", 2, 7);
        refuses(s, "dark 1; 12 ?", 2, 8);
        // What is no token is met before what could not stand there.
        refuses(s, "dark ? dark", 1, 5);
        refuses(s, "dark lit", 1, 5);
        refuses(s, "high 100", 1, 5);
        refuses(s, "dark 1;".repeat(12) + "dark 0", 5, 84);
    }

    private static void noTokens(Sentences s) {
        s.says("1 no TOKEN");
        for (int sign = 0; sign < 256; sign++) {
            boolean blank = sign == 32;
            boolean figure = sign >= '0' && sign <= '9';
            boolean letter = sign >= 'a' && sign <= 'z';
            if (blank) {
                takes(s, "dark 5;" + (char) sign, 1);
            } else {
                refuses(s, "dark 5;" + (char) sign, figure || sign == ';' ? 2 : 1, 7);
            }
            if (letter) {
                refuses(s, "dark 5;" + (char) sign + (char) sign, 1, 7);
            }
        }
        s.says("a NAME that is none of these");
        refuses(s, "hig 0", 1, 0);
        refuses(s, "highs 0", 1, 0);
        refuses(s, "high 0 lo", 1, 7);
        refuses(s, "high 0 lows", 1, 7);
        refuses(s, "high 0 low 1 fo", 1, 13);
        refuses(s, "high 0 low 1 fort", 1, 13);
        refuses(s, "dar 1;", 1, 0);
        refuses(s, "darks 1;", 1, 0);
        refuses(s, "light 1;", 1, 0);
        refuses(s, "sigh 0", 1, 0);
        refuses(s, "high 0 tow", 1, 7);
        refuses(s, "high 0 low 1 nor", 1, 13);
        refuses(s, "bark 1;", 1, 0);
        refuses(s, "dirk 1;", 1, 0);
        refuses(s, "dare 1;", 1, 0);
        s.says("a NUMBER that is too long (its first byte).");
        refuses(s, "dark 123;", 1, 5);
        refuses(s, "dark 000;", 1, 5);
        refuses(s, "high 000", 1, 5);
        refuses(s, "123", 1, 0);
        refuses(s, "dark " + "1".repeat(195), 1, 5);
    }

    private static void misplaced(Sentences s) {
        s.says("2 a TOKEN that can not stand there");
        String[] begins = {"", "high ", "high 0 ", "high 0 low ", "high 0 low 1 ", "high 0 low 1 for ",
            "high 0 low 1 for 1 ", "dark ", "dark 1 "};
        // Which of the tokens high, low, for, dark, ; and a number may stand there.
        String[] mayStand = {"hd", "1", "1l", "1", "1f", "1", ";", "1", ";"};
        String[] tokens = {"high", "low", "for", "dark", ";", "1"};
        for (int i = 0; i < begins.length; i++) {
            for (String token : tokens) {
                if (mayStand[i].indexOf(token.charAt(0)) < 0) {
                    refuses(s, begins[i] + token, 2, begins[i].length());
                }
            }
        }
        s.says("(or the end: the length).");
        refuses(s, "high", 2, 4);
        refuses(s, "high 0", 2, 6);
        refuses(s, "high 0 low", 2, 10);
        refuses(s, "high 0 low 1", 2, 12);
        refuses(s, "high 0 low 1 for", 2, 16);
        refuses(s, "high 0 low 1 for 1", 2, 18);
        refuses(s, "dark", 2, 4);
        refuses(s, "dark 1", 2, 6);
        refuses(s, "dark 1   ", 2, 9);
        refuses(s, "dark 1" + " ".repeat(194), 2, 200);
    }

    private static void numbers(Sentences s) {
        s.says("3 a NUMBER out of its bounds.");
        refuses(s, "high 4 low 1 for 1;", 3, 5);
        refuses(s, "high 0 99 low 1 for 1;", 3, 7);
        refuses(s, "high 0 low 4 for 1;", 3, 11);
        refuses(s, "high 0 low 1 10 for 1;", 3, 13);
        refuses(s, "high 0 low 1 for 0;", 3, 17);
        refuses(s, "high 0 low 1 for 61;", 3, 17);
        refuses(s, "dark 0;", 3, 5);
        refuses(s, "dark 61;", 3, 5);
        s.says("4 a WIRE that the line has already (it).");
        refuses(s, "high 0 0 low 1 for 1;", 4, 7);
        refuses(s, "high 0 00 low 1 for 1;", 4, 7);
        refuses(s, "high 3 1 2 3 low 0 for 1;", 4, 11);
        refuses(s, "high 0 low 0 for 1;", 4, 11);
        refuses(s, "high 0 low 1 1 for 1;", 4, 13);
        refuses(s, "high 0 1 2 3 low 0 for 1;", 4, 17);
        takes(s, "high 0 low 1 for 1;high 1 low 0 for 1;", 2);
    }

    private static void tooMany(Sentences s) {
        s.says("5 the 13th line (its NAME).");
        String twelve = "dark 1;".repeat(12);
        takes(s, twelve, 12);
        takes(s, twelve + "   ", 12);
        refuses(s, twelve + "dark 1;", 5, 84);
        refuses(s, twelve + "  high 0 low 1 for 1;", 5, 86);
        refuses(s, twelve + "high", 5, 84);
        takes(s, "high0low1for1;".repeat(12), 12);
        refuses(s, "high0low1for1;".repeat(12) + "dark", 5, 168);
    }
}
