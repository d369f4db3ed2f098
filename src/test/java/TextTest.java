/** The FAULTS of texts, each with its place, and the tape. */
public final class TextTest {
    private static final Check CHECK = new Check("TextTest");

    public static void main(String[] args) {
        tape();
        tokens();
        syntax();
        room();
        roomOfTokens();
        slight();
        order();
        afterFaults();
        CHECK.end();
    }

    private static void fault(String text, int number, int place) {
        JigsawHole hole = new JigsawHole();
        CHECK.due("read() of " + text, number, Check.read(hole, text));
        CHECK.due("place() of " + text, place, hole.place());
        CHECK.due("count(9) behind " + text, 0, hole.count(9));
    }

    private static void good(String text) {
        fault(text, 0, -1);
    }

    private static String times(int n, String part) {
        StringBuilder all = new StringBuilder();
        for (int i = 0; i < n; i++) {
            all.append(part);
        }
        return all.toString();
    }

    private static void tape() {
        JigsawHole hole = new JigsawHole();
        CHECK.due("place() of a new one", -1, hole.place());
        CHECK.due("back(0)", 0, hole.back(0));
        CHECK.due("back(1) of an empty tape", -1, hole.back(1));
        for (int i = 1; i <= 100; i++) {
            CHECK.due("feed " + i, 20 * i, hole.feed(0x20202020, 0x20202020, 0x20202020, 0x20202020, 0x20202020));
        }
        CHECK.due("feed of a full tape", -1, hole.feed(0, 0, 0, 0, 0));
        CHECK.due("count(9)", 2000, hole.count(9));
        CHECK.due("back(1)", 1999, hole.back(1));
        CHECK.due("feed beyond 2,000", -1, hole.feed(0, 0, 0, 0, 0));
        CHECK.due("count(9) behind it", 1999, hole.count(9));
        CHECK.due("back(19)", 1980, hole.back(19));
        CHECK.due("feed up to 2,000", 2000, hole.feed(0x20202020, 0x20202020, 0x20202020, 0x20202020, 0x20202020));
        CHECK.due("back(-1)", -1, hole.back(-1));
        CHECK.due("back(MIN)", -1, hole.back(Integer.MIN_VALUE));
        CHECK.due("back(2001)", -1, hole.back(2001));
        CHECK.due("read of blanks", 0, hole.read());
        CHECK.due("count(9) behind read", 0, hole.count(9));
        Check.feedText(hole, "row a;?");
        CHECK.due("read of what is none", 1, hole.read());
        CHECK.due("its place", 6, hole.place());
        CHECK.due("read of nothing", 0, hole.read());
        CHECK.due("place without", -1, hole.place());
        Check.feedText(hole, "row ");
        Check.feedText(hole, "ab;?");
        hole.back(1);
        CHECK.due("read of two feeds", 0, hole.read());
        CHECK.due("its X", 2, hole.count(0));
    }

    private static void tokens() {
        good("");
        good(" \t\n\r ");
        good("row\tabcdeo\n;\rrow oooooo;");
        fault("row\u000bab;", 1, 3);
        fault("row\u000cab;", 1, 3);
        fault("row\u00a0ab;", 1, 3);
        fault("\u00ff", 1, 0);
        fault("\0", 1, 0);
        good("ways=if 1<2then 3else 4;");
        good("ways=if1<2then3else4;");
        good("knocks1;seed2;");
        fault("rowab;", 1, 0);
        fault("row Ab;", 1, 4);
        fault("row abcdeabcd;", 1, 4);
        fault("row abcdeabc;", 6, 4);
        fault("seed 10000;", 1, 5);
        good("seed 9999;");
        good("seed 0000;");
        good("spare abcdefgh 0 0 0 0;");
        fault("spare abcdefghi 0 0 0 0;", 1, 6);
        fault("ways = 1.;", 1, 8);
        fault("ways = 1 > 2;", 1, 9);
        fault("ways = 'x';", 1, 7);
        for (String word : "row knob spare ways taxes wet falls knocks seed if then else across down land joined day same size parts side".split(" ")) {
            fault("spare " + word + " 0 0 0 0;", 1, 6);
            good("spare " + word + "x 0 0 0 0;");
            good("spare " + word.substring(0, word.length() - 1) + " 0 0 0 0;");
        }
        fault("row day;", 1, 4);
        good("row o;");
        good("spare o 0 0 0 0;");
        good("row a;row o;");
    }

    private static void syntax() {
        fault(";", 1, 0);
        fault("x", 1, 0);
        fault("5", 1, 0);
        fault("if", 1, 0);
        fault("row", 1, 3);
        fault("row ", 1, 4);
        fault("row ;", 1, 4);
        fault("row ab", 1, 6);
        fault("row ab  ", 1, 8);
        fault("row ab row", 1, 7);
        fault("row 12;", 1, 4);
        fault("knob 1 2 3;", 1, 10);
        fault("knob 1 2 - 3 1;", 1, 9);
        fault("knob 0 0 0 - - 1;", 1, 13);
        fault("knob 0 0 0 + 1;", 1, 11);
        fault("knob 0 0 0 -;", 1, 12);
        fault("knob 0 0 0 1 1;", 1, 13);
        fault("spare a 1 2 3;", 1, 13);
        fault("spare a 1 2 3 4 5;", 1, 16);
        fault("spare 1 2 3 4;", 1, 6);
        fault("ways 1;", 1, 5);
        fault("ways = ;", 1, 7);
        fault("ways = 1", 1, 8);
        fault("ways = -1;", 1, 7);
        fault("ways = 1 +;", 1, 10);
        fault("ways = 1 + * 2;", 1, 11);
        fault("ways = (1;", 1, 9);
        fault("ways = 1);", 1, 8);
        fault("ways = ();", 1, 8);
        fault("ways = 1 < 2;", 1, 9);
        fault("ways = 1 2;", 1, 9);
        fault("ways = (1 < 2);", 1, 10);
        fault("ways = if 1 then 2 else 3;", 1, 12);
        fault("ways = if 1 < 2 else 3;", 1, 16);
        fault("ways = if 1 < 2 then 3;", 1, 22);
        fault("ways = if 1 < 2 < 3 then 3 else 4;", 1, 16);
        fault("ways = if 1 < 2 then if 1 < 2 then 3 else 4 else 5;", 1, 21);
        fault("ways = if 1 < 2 then 3 else ;", 1, 28);
        fault("ways = 1 + if 1 < 2 then 3 else 4;", 1, 11);
        fault("ways = (if 1 < 2 then 3 else 4);", 1, 8);
        fault("ways = x;", 1, 7);
        fault("knocks -1;", 1, 7);
        fault("knocks 1 2;", 1, 9);
        fault("seed;", 1, 4);
        good("ways = if across + down < land * 2 then (joined - day) / 3 else if same < size then parts else side;");
        good("taxes = ((((((1))))));");
        good("wet = (1) + (2) * (3) - (4) / (5);");
    }

    private static void room() {
        good(times(5, "row a;"));
        fault(times(6, "row a;"), 2, 30);
        fault(times(5, "row a;") + "row", 2, 30);
        fault(times(5, "row a;") + " seed 1 row", 1, 38);
        good("row a;" + times(40, "knob 0 0 0 1;"));
        fault("row a;" + times(41, "knob 0 0 0 1;"), 2, 6 + 40 * 13);
        String spares = "spare a 0 0 0 0;spare b 0 0 0 0;spare c 0 0 0 0;spare d 0 0 0 0;spare e 0 0 0 0;";
        good(spares);
        fault(spares + "spare f 0 0 0 0;", 2, 80);
        fault(spares + "spare a 0 0 0 0;", 2, 80);
        String ifs = times(4, "if 1 < 2 then 3 else ");
        good("ways = " + ifs + "4;");
        fault("ways = " + ifs + "if 1 < 2 then 3 else 4;", 2, 7 + 84);
        fault("ways = " + ifs + "if", 2, 7 + 84);
        good("ways = " + ifs + "4; taxes = " + ifs + "4;");
        good("wet = ((((((1)))))) + ((((((2))))));");
        fault("wet = (((((((1)))))));", 2, 12);
        fault("wet = 1 + (2 * (3 - (4 / (5 + (6 - (7 * (8", 2, 40);
        good("wet = if ((((((1)))))) < ((((((1)))))) then ((((((1)))))) else ((((((1))))));");
        fault("wet = if (((((((1", 2, 15);
        fault("wet = ((((((1)))))) + (((((((", 2, 28);
    }

    private static void roomOfTokens() {
        // "seed 1;" is three TOKENS, "wet = 1;" four: 399 + 1 TOKENS here, then 401.
        String many = times(132, "seed 1;");
        good(many + "wet = 1;");
        fault(many + "wet = 1;wet = 1;", 2, 132 * 7 + 8);
        fault(many + "wet = 1;)", 1, 132 * 7 + 8);
        fault(many + "wet = 1;?", 1, 132 * 7 + 8);
        fault(many + "wet = 1;abcdefghi", 1, 132 * 7 + 8);
        good(many + "wet = 1;   ");
        fault(many + "wet = 1", 1, 132 * 7 + 7);
        fault(times(133, "seed 1;") + "seed 1;", 2, 133 * 7 + 5);
        fault(times(133, "seed 1;") + "seed 12345;", 1, 133 * 7 + 5);
        fault(times(133, "seed 1;") + "seed", 1, 133 * 7 + 4);
        fault(times(133, "seed 1;") + "seed)", 1, 133 * 7 + 4);
        fault(times(133, "seed 1;") + "seed 1?", 2, 133 * 7 + 5);
        fault(times(133, "seed 1;") + "?", 1, 133 * 7);
        // the whole code of one law
        good("ways = 1" + times(198, "+1") + ";");
        fault("ways = 1" + times(199, "+1") + ";", 2, 8 + 397);
    }

    private static void slight() {
        fault("spare a 0 0 0 0; spare a 0 0 0 0;", 3, 23);
        good("spare a 0 0 0 0; spare aa 0 0 0 0; spare ab 0 0 0 0; spare ba 0 0 0 0;");
        fault("spare b 0 0 0 0; spare a 0 0 0 0; spare b 0 0 0 0;", 3, 40);
        fault("spare abcdefgh 0 0 0 0; spare abcdefgh 0 0 0 0;", 3, 30);
        good("row abcde;row ooooo;knob 4 0 3 - 3;");
        fault("row a;knob 6 0 0 0;", 5, 11);
        fault("row a;knob 0 5 0 0;", 5, 13);
        fault("row a;knob 0 0 4 0;", 5, 15);
        fault("row a;knob 0 0 0 4;", 5, 17);
        fault("row a;knob 0 0 0 - 4;", 5, 19);
        good("row a;knob 0 0 0 - 3;");
        good("row a;knob 0 0 0 - 0;");
        fault("spare a 4 0 0 0;", 5, 8);
        fault("spare a 0 - 4 0 0;", 5, 12);
        fault("spare a 0 0 0 9999;", 5, 14);
        good("spare a 3 - 3 3 - 3;");
        good("knocks 100;");
        good("knocks 0;");
        fault("knocks 101;", 5, 7);
        fault("row ab;row a;", 6, 11);
        fault("row a;row ab;", 6, 10);
        fault("row abcdeab;", 6, 4);
        good("row abcdea;");
        fault("row af;", 6, 4);
        fault("row ap;", 6, 4);
        fault("row an;", 6, 4);
        fault("row abcdeab;row abcdeab;", 6, 4);
        fault("row a;knob 1 0 0 0;", 6, 19);
        fault("row a;knob 0 1 0 0;  ", 6, 21);
        fault("row ao;knob 1 0 0 0;", 6, 20);
        fault("knob 0 0 0 0;", 6, 13);
        good("knob 0 1 0 1; row a; row b;");
        fault("knob 0 1 0 1; row a;", 6, 20);
        fault("row aao;knob 2 0 0 1;row aaa;", 6, 29);
    }

    private static void order() {
        fault("row a;knob 0 0 0 4;row ab;", 5, 17);
        fault("row a;row ab;knob 0 0 0 4;", 6, 10);
        fault("spare a 0 0 0 0;spare a 4 0 0 0;", 3, 22);
        fault("spare a 0 0 0 4;spare a 0 0 0 0;", 5, 14);
        fault("knob 1 0 0 0;row a;knocks 101;", 5, 26);
        fault("row af;)", 1, 7);
        fault("knocks 101; row", 1, 15);
        fault("spare a 4 0 0 0;wet = (((((((1", 2, 16 + 6 + 6);
        fault("wet = (((((((1;", 2, 12);
        fault("wet = ) (((((((1;", 1, 6);
    }

    private static void afterFaults() {
        JigsawHole hole = Check.of("row ab; spare x 1 2 3 0; seed 7;");
        hole.lay(0, 0);
        hole.days(2);
        hole.hold(1);
        hole.tell(1, 2);
        CHECK.due("a faulty text", 6, Check.read(hole, "row f;"));
        CHECK.due("its place", 4, hole.place());
        CHECK.due("X behind it", 2, hole.count(0));
        CHECK.due("SPARES behind it", 1, hole.count(2));
        CHECK.due("the day behind it", 2, hole.count(3));
        CHECK.due("LYING behind it", 1, hole.count(4));
        CHECK.due("undoable behind it", 2, hole.count(10));
        CHECK.due("TOLD behind it", 1, hole.count(11));
        CHECK.due("SLOTS behind it", 1, hole.count(12));
        CHECK.due("a good text", 0, Check.read(hole, "row abc;"));
        CHECK.due("place", -1, hole.place());
        CHECK.due("X", 3, hole.count(0));
        CHECK.due("SPARES", 0, hole.count(2));
        CHECK.due("the day", 0, hole.count(3));
        CHECK.due("LYING", 0, hole.count(4));
        CHECK.due("TAXES", 0, hole.count(5));
        CHECK.due("undoable", 0, hole.count(10));
        CHECK.due("TOLD", 0, hole.count(11));
        CHECK.due("SLOTS", 0, hole.count(12));
        CHECK.due("undo", false, hole.undo());
        CHECK.due("restore", false, hole.restore(1));
    }
}
