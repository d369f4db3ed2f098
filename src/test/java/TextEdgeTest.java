import java.util.ArrayList;
import java.util.Arrays;
import java.util.List;

/** Part I of the document and promises 1 to 5: the last that is taken, the first beyond it on either side. */
public final class TextEdgeTest {
    private static final Check CHECK = new Check("TextEdgeTest");
    private static final int SPACES = 0x20202020;
    private static final int QUESTIONS = 0x3f3f3f3f;
    private static final int LAST_QUESTION = 0x2020203f;
    private static final String BEGINNERS = "row knob spare ways taxes wet falls knocks seed";
    private static final String VARS = "across down land joined day same size parts side";
    private static final String UNITS = "7 ( " + VARS;
    private static final String[] LAWS = {"ways", "taxes", "wet", "falls"};
    private static final String[] WORDS = (BEGINNERS + " if then else " + VARS).split(" ");
    /** Whole texts, a blank between each two TOKENS. */
    private static final String[] TEXTS = {
        "row abo ;", "row abo ; knob 0 0 0 3 ;", "row abo ; knob 1 0 3 - 3 ;", "spare s 0 - 1 2 - 3 ;", "ways = 1 ;",
        "taxes = if 1 < 2 then 3 else 4 ;", "wet = ( 1 + 2 ) * 3 - ( 4 / 5 ) ;",
        "falls = if across < down then land else if joined < day then same else size + parts * side ;",
        "knocks 100 ;", "seed 9999 ;",
    };

    public static void main(String[] args) {
        fedBytes();
        fullTape();
        back();
        readAndPlace();
        wholeTape();
        eachByte();
        longest();
        words();
        cutTexts();
        goesOnInTells();
        goesOnInLaws();
        lastToken();
        rowsKnobsSpares();
        roomAtItsFirstToken();
        ifs();
        brackets();
        twice();
        numbers();
        rowsOfATable();
        knobsOfATable();
        firstByPlace();
        faultsChangeNothing();
        goodTexts();
        smallerTables();
        readAgain();
        lawsOfTheOneAhead();
        longLaws();
        lastOnes();
        CHECK.end();
    }

    private static void fault(String text, int number, int place) {
        JigsawHole hole = new JigsawHole();
        CHECK.due("read() of " + text, number, Check.read(hole, text));
        CHECK.due("place() of " + text, place, hole.place());
        CHECK.due("count(9) behind " + text, 0, hole.count(9));
    }

    private static void good(String text) {
        fault(text, 0, -1);
    }

    /** The last piece of the text has the FAULT. */
    private static void faultAt(int number, String ahead, String at, String behind) {
        fault(ahead + at + behind, number, ahead.length());
    }

    private static void fedBytes() {
        JigsawHole hole = new JigsawHole();
        for (int odd : new int[] {'?', 0, 127, 128, 255}) {
            for (int place = 0; place < 20; place++) {
                int[] bytes = new int[20];
                Arrays.fill(bytes, ' ');
                bytes[place] = odd;
                Check.feedBytes(hole, bytes);
                CHECK.due("feed " + odd, 1, hole.read());
                CHECK.due("feed " + odd + " comes to its place", place, hole.place());
            }
        }
        hole.feed(SPACES, SPACES, SPACES, SPACES, SPACES);
        hole.feed(SPACES, SPACES, SPACES, SPACES, LAST_QUESTION);
        CHECK.due("bytes come behind the tape", 1, hole.read());
        CHECK.due("bytes come behind the tape, place", 39, hole.place());
    }

    private static JigsawHole blankTape(int bytes) {
        JigsawHole hole = new JigsawHole();
        for (int i = 0; i < bytes; i += 20) {
            CHECK.due("feed", i + 20, hole.feed(SPACES, SPACES, SPACES, SPACES, SPACES));
        }
        CHECK.due("back to " + bytes, bytes, hole.back((2000 - bytes) % 20));
        return hole;
    }

    private static void fullTape() {
        for (int bytes = 1981; bytes <= 2000; bytes++) {
            JigsawHole hole = blankTape(bytes);
            CHECK.due("feed behind " + bytes, -1, hole.feed(QUESTIONS, QUESTIONS, QUESTIONS, QUESTIONS, QUESTIONS));
            CHECK.due("nothing comes behind " + bytes, bytes, hole.count(9));
            CHECK.due("nothing came behind " + bytes, 0, hole.read());
        }
        for (int bytes = 1979; bytes <= 1980; bytes++) {
            JigsawHole hole = blankTape(bytes);
            CHECK.due("feed behind " + bytes, bytes + 20, hole.feed(SPACES, SPACES, SPACES, SPACES, LAST_QUESTION));
            CHECK.due("all came behind " + bytes, 1, hole.read());
            CHECK.due("the last byte came behind " + bytes, bytes + 19, hole.place());
            CHECK.due("the tape is empty then", 20, hole.feed(SPACES, SPACES, SPACES, SPACES, SPACES));
        }
    }

    private static void back() {
        JigsawHole hole = new JigsawHole();
        CHECK.due("back(0) of nothing", 0, hole.back(0));
        for (int odd : Check.beyond(1)) {
            CHECK.due("back of nothing", -1, hole.back(odd));
        }
        Check.feedText(hole, "seed 1;?seed 2;?row a");
        CHECK.due("back(0)", 21, hole.back(0));
        for (int odd : Check.beyond(22)) {
            CHECK.due("back(" + odd + ")", -1, hole.back(odd));
        }
        CHECK.due("nothing goes", 21, hole.count(9));
        CHECK.due("the last ones go", 15, hole.back(6));
        CHECK.due("the last ones go, one more", 14, hole.back(1));
        CHECK.due("what stays", 1, hole.read());
        CHECK.due("what stays has its place", 7, hole.place());
        Check.feedText(hole, "????");
        CHECK.due("back of all", 0, hole.back(4));
        CHECK.due("back of one more", -1, hole.back(1));
        Check.feedText(hole, "row abc;");
        CHECK.due("what went is gone", 0, hole.read());
        CHECK.due("what came then", 3, hole.count(0));
    }

    private static void readAndPlace() {
        JigsawHole hole = new JigsawHole();
        CHECK.due("place of a new one", -1, hole.place());
        CHECK.due("read of nothing", 0, hole.read());
        CHECK.due("place without", -1, hole.place());
        Check.feedText(hole, "?");
        CHECK.due("place ahead of the read", -1, hole.place());
        CHECK.due("read", 1, hole.read());
        CHECK.due("place of byte 0", 0, hole.place());
        CHECK.due("the tape is empty", 0, hole.count(9));
        CHECK.due("the tape has nothing to go", -1, hole.back(1));
        Check.feedText(hole, "row abcd;");
        CHECK.due("place is of the latest read", 0, hole.place());
        CHECK.due("read of the next", 0, hole.read());
        CHECK.due("place is gone", -1, hole.place());
        CHECK.due("X", 4, hole.count(0));
        CHECK.due("read of nothing again", 0, hole.read());
        CHECK.due("it is in place of the one ahead", 0, hole.count(0));
    }

    private static void wholeTape() {
        good(" ".repeat(2000));
        good(" ".repeat(1991) + "row abcd;");
        good("row abcd;" + " ".repeat(1991));
        fault(" ".repeat(1999) + "?", 1, 1999);
        fault(" ".repeat(1996) + "seed", 1, 2000);
        fault(" ".repeat(1992) + "row abcd", 1, 2000);
        fault(" ".repeat(1992) + "seed 123", 1, 2000);
        fault("row a;knob 1 0 0 0;" + " ".repeat(1981), 6, 2000);
        good(" ".repeat(1992) + "seed 12;");
        fault(" ".repeat(1993) + "row ab" + "?", 1, 1999);
    }

    private static void eachByte() {
        for (int b = 0; b < 256; b++) {
            boolean blank = b == 9 || b == 10 || b == 13 || b == 32;
            boolean letter = b >= 'a' && b <= 'z';
            boolean digit = b >= '0' && b <= '9';
            String odd = "" + (char) b;
            fault(odd, blank ? 0 : 1, blank ? -1 : 0);
            int ofRow = letter ? "abcdeo".indexOf(b) >= 0 ? 0 : 6 : 1;
            fault("row " + odd + ";", ofRow, ofRow == 0 ? -1 : blank ? 5 : 4);
            fault("seed " + odd + ";", digit ? 0 : 1, digit ? -1 : blank ? 6 : 5);
            boolean joins = digit || "+-*/".indexOf(b) >= 0;
            fault("wet = 1" + odd + "1;", joins ? 0 : 1, joins ? -1 : blank || b == ';' ? 8 : 7);
            fault("seed" + odd + "1;", blank || digit ? 0 : 1, blank || digit ? -1 : letter ? 0 : 4);
        }
    }

    private static void longest() {
        String name = "abcdeabcde";
        for (int n = 1; n <= 10; n++) {
            fault("spare " + name.substring(0, n) + " 0 0 0 0;", n > 8 ? 1 : 0, n > 8 ? 6 : -1);
            fault("row " + name.substring(0, n) + ";", n > 8 ? 1 : n > 6 ? 6 : 0, n > 6 ? 4 : -1);
        }
        String digits = "0000000000000000";
        for (int n = 1; n <= 16; n++) {
            fault("seed " + digits.substring(0, n) + ";", n > 4 ? 1 : 0, n > 4 ? 5 : -1);
            fault("wet = " + digits.substring(0, n) + ";", n > 4 ? 1 : 0, n > 4 ? 6 : -1);
        }
        good("knocks 0100;");
        fault("knocks 0101;", 5, 7);
        good("row a;knob0 0 0-3;spare s-3-3-3-3;seed1;");
        good("ways=if1<2then3else if1<2then 3else4;");
        fault("ways=if1<2then3elseif1<2then 3else4;", 1, 15);
        fault("row a;knob 000 0;", 1, 16);
        fault("ro w a;", 1, 0);
        fault("seed 1 2;", 1, 7);
    }

    private static void words() {
        for (String word : WORDS) {
            faultAt(1, "row ", word, ";");
            faultAt(1, "spare ", word, " 0 0 0 0;");
            good("spare " + word + "x 0 0 0 0;");
            good("spare x" + word + " 0 0 0 0;");
            good("spare " + word.substring(1) + " 0 0 0 0;");
            fault("row " + word + "q;", 6, 4);
        }
    }

    /** With each TOKEN behind which a text is cut: SYNTAX at its end; with what is none, or may not stand there, at it. */
    private static void cutTexts() {
        for (String text : TEXTS) {
            good(text);
            good(text.replace(" ", "\t\r\n "));
            String[] parts = text.split(" ");
            StringBuilder cut = new StringBuilder();
            for (int i = 0; i < parts.length - 1; i++) {
                cut.append(parts[i]);
                if (!parts[i].equals(";")) {
                    fault(cut.toString(), 1, cut.length());
                    fault(cut + " \t", 1, cut.length() + 2);
                    for (String odd : new String[] {"?", "row", "seed", "abcdefghi", "12345"}) {
                        if (!odd.startsWith(parts[i + 1])) {
                            faultAt(1, cut + " ", odd, " 1;");
                        }
                    }
                }
                cut.append(' ');
            }
        }
    }

    private static List<String> tokens() {
        List<String> all = new ArrayList<>(Arrays.asList(WORDS));
        all.addAll(Arrays.asList("; = + - * / < ( ) x 7 ? abcdefghi 12345".split(" ")));
        return all;
    }

    /** With just those TOKENS a text goes on; with each other one, or with what is none, it is SYNTAX there. */
    private static void goesOn(String start, String allowed) {
        for (String token : tokens()) {
            boolean may = (" " + allowed + " ").contains(" " + token + " ");
            JigsawHole hole = new JigsawHole();
            int fault = Check.read(hole, start + token);
            CHECK.due("goes on: " + start + token, may, fault != 1 || hole.place() > start.length());
            if (fault == 1) {
                CHECK.due("place: " + start + token, start.length() + (may ? token.length() : 0), hole.place());
            }
        }
    }

    private static void goesOnInTells() {
        goesOn("", BEGINNERS);
        goesOn("seed 1; ", BEGINNERS);
        goesOn("row ", "x");
        goesOn("row ab ", ";");
        goesOn("knob ", "7");
        goesOn("knob 0 ", "7");
        goesOn("knob 0 0 ", "7");
        goesOn("knob 0 0 0 ", "7 -");
        goesOn("knob 0 0 0 - ", "7");
        goesOn("knob 0 0 0 1 ", ";");
        goesOn("spare ", "x");
        goesOn("spare s ", "7 -");
        goesOn("spare s - ", "7");
        goesOn("spare s 1 ", "7 -");
        goesOn("spare s 1 - ", "7");
        goesOn("spare s 1 2 ", "7 -");
        goesOn("spare s 1 2 - 3 ", "7 -");
        goesOn("spare s 1 2 3 - ", "7");
        goesOn("spare s 1 2 3 0 ", ";");
        goesOn("knocks ", "7");
        goesOn("knocks 1 ", ";");
        goesOn("seed ", "7");
        goesOn("seed 1 ", ";");
    }

    private static void goesOnInLaws() {
        for (String law : LAWS) {
            goesOn(law + " ", "=");
            goesOn(law + " = ", "if " + UNITS);
            goesOn(law + " = 1 ", "+ - * / ;");
            goesOn(law + " = side ", "+ - * / ;");
        }
        for (String sign : "+ - * /".split(" ")) {
            goesOn("ways = 1 " + sign + " ", UNITS);
            goesOn("ways = ( 1 " + sign + " ", UNITS);
        }
        goesOn("ways = ( ", UNITS);
        goesOn("ways = ( 1 ", "+ - * / )");
        goesOn("ways = ( 1 ) ", "+ - * / ;");
        goesOn("ways = if ", UNITS);
        goesOn("ways = if 1 ", "+ - * / <");
        goesOn("ways = if ( 1 ) ", "+ - * / <");
        goesOn("ways = if 1 < ", UNITS);
        goesOn("ways = if 1 < 2 ", "+ - * / then");
        goesOn("ways = if 1 < 2 then ", UNITS);
        goesOn("ways = if 1 < 2 then 3 ", "+ - * / else");
        goesOn("ways = if 1 < 2 then 3 else ", "if " + UNITS);
        goesOn("ways = if 1 < 2 then 3 else 4 ", "+ - * / ;");
        goesOn("ways = if 1 < 2 then 3 else if 1 < 2 then 4 else ", "if " + UNITS);
    }

    /** Whole TELLS of that many TOKENS, 6 at least. */
    private static String filler(int tokens) {
        int laws = tokens % 3;
        return "wet = 1;".repeat(laws) + "seed 1;".repeat((tokens - 4 * laws) / 3);
    }

    private static void lastToken() {
        for (String text : TEXTS) {
            String[] parts = text.split(" ");
            good(filler(400 - parts.length) + text);
            good(filler(400 - parts.length) + text + " \n");
            faultAt(1, filler(400 - parts.length) + text + " ", "?", "");
            faultAt(1, filler(400 - parts.length) + text + " ", "abcdefghi", "");
            faultAt(1, filler(400 - parts.length) + text + " ", "x", " ;");
            faultAt(2, filler(400 - parts.length) + text + " ", "row", "?");
            faultAt(2, filler(400 - parts.length) + text + " ", "wet", "");
            StringBuilder ahead = new StringBuilder();
            for (int i = 0; i < parts.length; i++) {
                String behind = text.substring(ahead.length() + parts[i].length());
                faultAt(2, filler(400 - i) + ahead, parts[i], behind);
                faultAt(2, filler(400 - i) + ahead, parts[i], "?");
                faultAt(1, filler(400 - i) + ahead, "?", behind);
                if (i > 0 && !parts[i - 1].equals(";")) {
                    fault(filler(400 - i) + ahead, 1, (filler(400 - i) + ahead).length());
                    faultAt(1, filler(400 - i) + ahead, "seed", behind);
                }
                ahead.append(parts[i]).append(' ');
            }
        }
    }

    private static void rowsKnobsSpares() {
        for (int n = 0; n <= 5; n++) {
            JigsawHole hole = Check.of("row abc;".repeat(n));
            CHECK.due("ROWS", n, hole.count(1));
            CHECK.due("X", n == 0 ? 0 : 3, hole.count(0));
        }
        JigsawHole knobs = Check.of("row abc;" + "knob 2 0 1 1;".repeat(38) + "knob 0 0 3 - 2;knob 1 0 2 3;");
        CHECK.due("KNOB 38", 1, knobs.knob(2, 0, 1));
        CHECK.due("KNOB 39", -2, knobs.knob(0, 0, 3));
        CHECK.due("KNOB 40", 3, knobs.knob(1, 0, 2));
        StringBuilder spares = new StringBuilder();
        for (int n = 0; n <= 5; n++) {
            JigsawHole hole = Check.of(spares.toString());
            CHECK.due("SPARES", n, hole.count(2));
            for (int i = 0; i < n; i++) {
                CHECK.due("SPARE " + i, i - 2, hole.spare(i, 0, 2));
            }
            CHECK.due("no such SPARE", -100, hole.spare(n, 0, 2));
            spares.append("spare ").append((char) ('z' - n)).append(" 0 0 ").append(n < 2 ? "-" : "").append(Math.abs(n - 2)).append(" 1;");
        }
    }

    private static void roomAtItsFirstToken() {
        String rows = "row a;".repeat(5);
        String knobs = "row a;" + "knob 0 0 0 1;".repeat(40);
        String spares = "spare a 0 0 0 0;spare b 0 0 0 0;spare c 0 0 0 0;spare d 0 0 0 0;spare e 0 0 0 0;";
        String[][] full = {{rows, "row", " a;"}, {knobs, "knob", " 0 0 0 1;"}, {knobs, "knob", " 9 9 9 9;"},
            {spares, "spare", " f 0 0 0 0;"}, {spares, "spare", " a 0 0 0 0;"}, {rows, "row", " abc;"}};
        for (String[] one : full) {
            good(one[0]);
            faultAt(2, one[0], one[1], one[2]);
            faultAt(2, one[0], one[1], one[2] + one[1] + one[2]);
            faultAt(2, one[0], one[1], "");
            faultAt(2, one[0], one[1], " ?");
            faultAt(2, one[0], one[1], one[2] + " ?");
            faultAt(2, one[0] + "seed 1; wet = 0;", one[1], one[2]);
            faultAt(1, one[0], "?", " " + one[1] + one[2]);
            faultAt(1, one[0] + "seed ", one[1], one[2]);
        }
        good(rows + "knob 0 4 0 1;".repeat(40) + spares);
        faultAt(2, rows + spares, "spare", " f 0 0 0 0;row a;");
        faultAt(2, rows + spares, "row", " a; spare f 0 0 0 0;");
    }

    private static void ifs() {
        String one = "if 1 < 2 then 3 else ";
        for (String law : LAWS) {
            for (int n = 0; n <= 4; n++) {
                good(law + " = " + one.repeat(n) + "4;");
            }
            faultAt(2, law + " = " + one.repeat(4), "if", " 1 < 2 then 3 else 4;");
            faultAt(2, law + " = " + one.repeat(4), "if", "");
            faultAt(2, law + " = " + one.repeat(4), "if", " ?");
            faultAt(2, law + " = " + one.repeat(4), "if", " 1 < 2 then 3 else if 1 < 2 then 3 else 4;");
            faultAt(2, law + " = " + one.repeat(2) + "4; " + law + " = " + one.repeat(4), "if", " 1 < 2 then 3 else 4;");
            faultAt(1, law + " = " + one.repeat(4), "then", " if 1 < 2");
        }
        StringBuilder all = new StringBuilder();
        for (String law : LAWS) {
            all.append(law).append(" = ").append(one.repeat(4)).append("4; ");
        }
        good(all.toString() + all);
    }

    private static void brackets() {
        String six = "((((((1))))))";
        String[] starts = {"ways = ", "taxes = if ", "wet = if 1 < ", "falls = if 1 < 2 then ", "ways = if 1 < 2 then 3 else ", "ways = 1 * ",
            "wet = " + six + " + ", "wet = (1) + (2) + (3) + (4) + (5) + (6) + (7) + ", "ways = if " + six + " < " + six + " then " + six + " else "};
        String[] ends = {";", " < 2 then 3 else 4;", " then 3 else 4;", " else 4;", ";", ";", ";", ";", ";"};
        for (int i = 0; i < starts.length; i++) {
            good(starts[i] + six + ends[i]);
            faultAt(2, starts[i] + "((((((", "(", "1)))))))" + ends[i]);
            faultAt(2, starts[i] + "((((((", "(", "");
            faultAt(2, starts[i] + "((((((", "(", "?");
            faultAt(2, starts[i] + "((((((", "(", "(((1");
            faultAt(1, starts[i] + "((((((", ")", "");
            faultAt(2, starts[i] + "(((((1 + (2) * (3) - (4 / ", "(", "5))))))" + ends[i]);
            good(starts[i] + "(((((1 + (2) * (3) - (4 / 5))))))" + ends[i]);
        }
    }

    private static void twice() {
        String[] names = {"a", "ab", "b", "aba", "abcdefgh"};
        String[] tells = new String[5];
        for (int i = 0; i < 5; i++) {
            tells[i] = "spare " + names[i] + " 0 0 0 0;";
        }
        good(String.join("", tells));
        for (int j = 1; j < 5; j++) {
            for (int i = 0; i < j; i++) {
                String ahead = String.join("", Arrays.copyOf(tells, j));
                faultAt(3, ahead + "spare ", names[i], " 0 0 0 0;");
                faultAt(3, ahead + "spare ", names[i], j == 4 ? " 3 3 3 3;" : " 0 0 0 4; spare " + names[i] + " 0 0 0 0;");
                faultAt(1, ahead + "spare " + names[i] + " ", "?", "");
                good(ahead + "spare " + names[i].charAt(0) + "z 0 0 0 0;");
            }
        }
        good("row abc; spare abc 0 0 0 0;");
        good("spare abcdefgh 0 0 0 0; spare abcdefgi 0 0 0 0; spare abcdefg 0 0 0 0; spare bbcdefgh 0 0 0 0;");
    }

    private static void numbers() {
        String full = "row aaaaaa;".repeat(5);
        int[] most = {5, 4, 3, 3};
        for (int place = 0; place < 4; place++) {
            int[] told = {0, 0, 0, 0};
            for (int number : new int[] {0, 1, most[place], most[place] + 1, 10, 9999}) {
                told[place] = number;
                StringBuilder ahead = new StringBuilder(full).append("knob ");
                for (int i = 0; i < place; i++) {
                    ahead.append("0 ");
                }
                String behind = " 0".repeat(3 - place) + ";";
                fault(ahead.toString() + number + behind, number > most[place] ? 5 : 0, number > most[place] ? ahead.length() : -1);
                if (place == 3) {
                    fault(ahead + "- " + number + behind, number > 3 ? 5 : 0, number > 3 ? ahead.length() + 2 : -1);
                }
                String spare = "spare s " + "- 3 ".repeat(place);
                fault(spare + number + behind, number > 3 ? 5 : 0, number > 3 ? spare.length() : -1);
                fault(spare + "- " + number + behind, number > 3 ? 5 : 0, number > 3 ? spare.length() + 2 : -1);
            }
        }
        good(full + "knob 5 4 3 - 3;");
        good("knocks 0;knocks 99;knocks 100;");
        fault("knocks 101;", 5, 7);
        fault("knocks 9999;", 5, 7);
        good("seed 0;seed 9999;");
        good("wet = 9999;");
        fault("knob 9 9 9 9;", 5, 5);
        fault("row a;knocks 101;knocks 100;", 5, 13);
    }

    private static void rowsOfATable() {
        String letters = "abcdeabc";
        for (int first = 1; first <= 8; first++) {
            for (int next = 1; next <= 8; next++) {
                String ahead = "row " + letters.substring(0, first) + ";";
                int place = first > 6 ? 4 : ahead.length() + 4;
                boolean sound = first <= 6 && first == next;
                fault(ahead + "row " + letters.substring(0, next) + ";", sound ? 0 : 6, sound ? -1 : place);
            }
        }
        for (char letter = 'a'; letter <= 'z'; letter++) {
            boolean sound = letter <= 'e' || letter == 'o';
            for (String row : new String[] {letter + "bbbbb", "bbb" + letter + "oo", "oooob" + letter}) {
                fault("row " + row + ";", sound ? 0 : 6, sound ? -1 : 4);
                fault("row aaaaaa;row " + row + ";", sound ? 0 : 6, sound ? -1 : 15);
            }
        }
        String rows = "";
        for (int i = 0; i < 5; i++) {
            faultAt(6, rows + "row ", i == 0 ? "af" : "a", ";");
            rows += "row ab;";
        }
        good(rows);
    }

    private static void knobsOfATable() {
        for (int wide = 1; wide <= 6; wide++) {
            for (int high = 1; high <= 5; high++) {
                String rows = ("row " + "aaaaaa".substring(0, wide) + ";").repeat(high);
                for (int x = 0; x < 6; x++) {
                    for (int y = 0; y < 5; y++) {
                        String text = rows + "knob " + x + " " + y + " 0 0; ";
                        boolean sound = x < wide && y < high;
                        fault(text, sound ? 0 : 6, sound ? -1 : text.length());
                    }
                }
            }
        }
        fault("knob 0 0 0 0;", 6, 13);
        good("knob 1 0 0 0;row aa;");
        good("knob 0 1 0 0;row a;row b;");
        fault("knob 0 1 0 0;row a;row o;", 6, 25);
        fault("row ao;knob 1 0 0 0;seed 1;", 6, 27);
        fault("row ao;knob 1 0 0 0;knob 0 0 0 0;\n\n", 6, 35);
        fault("row ao;knob 0 0 0 0;knob 1 0 0 0;", 6, 33);
        fault("row oo;row oo;knob 1 1 3 - 3;", 6, 29);
    }

    private static void firstByPlace() {
        String twice = "spare a 0 0 0 0;spare a 0 0 0 0;";
        String wrong = "knocks 101;";
        String table = "row af;";
        String[] slight = {twice, wrong, table};
        int[] numbers = {3, 5, 6};
        int[] places = {22, 7, 4};
        for (int i = 0; i < 3; i++) {
            for (int j = 0; j < 3; j++) {
                if (i != j) {
                    fault(slight[i] + slight[j], numbers[i], places[i]);
                    fault(" " + slight[i] + slight[j] + "knob 0 0 0 0;", numbers[i], places[i] + 1);
                }
            }
            faultAt(1, slight[i], "?", "");
            faultAt(1, slight[i], ")", "");
            fault(slight[i] + "row", 1, slight[i].length() + 3);
            faultAt(2, slight[i] + "wet = ((((((", "(", "");
            fault("knob 5 4 0 0;" + slight[i], numbers[i], places[i] + 13);
            fault("knob 5 4 0 0;" + slight[i] + "?", 1, 13 + slight[i].length());
        }
        faultAt(1, "wet = ", "?", "(((((((");
        faultAt(2, "wet = ((((((", "(", "?");
        faultAt(1, "row a;".repeat(5), "?", "row a;");
        faultAt(2, "row a;".repeat(5), "row", "?");
        faultAt(5, "spare a ", "4", " 0 0 0;spare a 0 0 0 0;");
        fault("knob 6 0 0 0;knob 0 5 0 0;", 5, 5);
    }

    /** An object in which all that a text could change is there. */
    private static JigsawHole busy() {
        JigsawHole hole = Check.of("row abo; row cde; knob 0 0 1 2; knob 1 0 3 - 2; spare s 0 0 0 0; knocks 100;"
            + "falls = if 3 < land then 100 else 0; seed 7; ways = 5;");
        hole.lay(0, 0);
        hole.lay(1, 0);
        hole.lay(2, 1);
        hole.days(2);
        CHECK.due("TOOK", 1, hole.count(13));
        hole.hold(1);
        hole.press(0, 2, 0, 3);
        hole.tell(1, 2);
        hole.tell(2, 0);
        return hole;
    }

    private static void faultsChangeNothing() {
        String[] texts = {"?", "row", "row a;".repeat(6), "row a; spare s 0 0 0 0; spare s 0 0 0 0;", "row a; knocks 101;", "row f;",
            "row a; knob 1 0 0 0;", "ways = 1; taxes = 1; wet = 0; falls = 100; knocks 0; seed 1; row abcd; row abc;"};
        int[] numbers = {1, 1, 2, 3, 5, 6, 6, 6};
        for (int i = 0; i < texts.length; i++) {
            JigsawHole hole = busy();
            String was = Check.state(hole);
            CHECK.due("a text with a FAULT", numbers[i], Check.read(hole, texts[i]));
            String is = Check.state(hole);
            CHECK.due("a FAULT changes nothing", was.replace("@-1", "@" + hole.place()), is);
            CHECK.due("WAYS are as they were", 5, hole.step(0, 0, 1));
            CHECK.due("KNOBS are as they were", -2, hole.knob(1, 0, 3));
            CHECK.due("what is TOLD is as it was", 0, hole.missing(1));
            CHECK.due("what is done can be undone", true, hole.undo());
            CHECK.due("what was PRESSED is not", -2, hole.cell(2, 0, 4));
            hole.days(1);
            CHECK.due("what is held is as it was", true, hole.restore(1));
            CHECK.due("the day that was held", 2, hole.count(3));
            CHECK.due("LYING that was held", 2, hole.count(4));
        }
    }

    private static void goodTexts() {
        for (String text : new String[] {"", " ", "row ab;", "row abo; row cde;", "seed 9;", "spare s 0 0 0 0;"}) {
            JigsawHole hole = busy();
            CHECK.due("a good text", 0, Check.read(hole, text));
            CHECK.due("all is as in a new one that reads " + text, Check.state(Check.of(text)), Check.state(hole));
            CHECK.due("nothing is held", false, hole.restore(1));
            CHECK.due("nothing can be undone", false, hole.undo());
            CHECK.due("nothing is TOLD", -1, hole.missing(1));
            CHECK.due("nothing to forget", 0, hole.forget());
            CHECK.due("no CELL but its own", text.contains(" ab") ? 0 : -1, hole.cell(0, 0, 0));
            CHECK.due("KNOBS are those of the text", text.contains(" ab") ? 0 : -100, hole.knob(0, 0, 1));
            CHECK.due("SPARES are those of the text", text.contains("spare") ? 0 : -100, hole.spare(0, 0, 0));
            CHECK.due("WAYS are those of the text", text.contains(" ab") ? 1 : -1, hole.step(0, 0, 1));
            CHECK.due("KNOCKS are those of the text", 0, hole.count(7));
            CHECK.due("days go on from 0", 1, hole.days(1));
        }
    }

    private static void smallerTables() {
        JigsawHole hole = Check.of("row aaaaaa;".repeat(5) + "knob 1 0 1 3;knob 1 1 0 3;seed 5;wet = 0;taxes = 9;ways = 9;falls = 100;knocks 100;");
        CHECK.due("a smaller text", 0, Check.read(hole, "row aa;"));
        CHECK.due("X of the larger one", -1, hole.cell(2, 0, 0));
        CHECK.due("Y of the larger one", -1, hole.cell(0, 1, 0));
        CHECK.due("pieces of the smaller one", 2, hole.land(0, 0));
        CHECK.due("HOLES of the smaller one", 0, hole.count(8));
        CHECK.due("no step to the larger one", -1, hole.step(1, 0, 1));
        CHECK.due("no step down to the larger one", -1, hole.step(1, 0, 2));
        CHECK.due("FREE of the smaller one", 2, hole.free());
        CHECK.due("MOST of the smaller one", 2, hole.most());
        CHECK.due("WET of the smaller one", 1, hole.count(6));
        CHECK.due("lay", true, hole.lay(1, 0));
        CHECK.due("TAXES of the smaller one", 1, hole.land(0, 3));
        CHECK.due("FALLS of the smaller one", 50, hole.cell(1, 0, 3));
        CHECK.due("no KNOCK", 1, hole.liesIn(60));
        CHECK.due("a text of HOLES", 0, Check.read(hole, "row ooo;row ooo;"));
        CHECK.due("no pieces", 0, hole.land(0, 0));
        CHECK.due("HOLES", 6, hole.count(8));
        JigsawHole holes = Check.of("row oooooo;".repeat(5) + "spare s 0 0 0 0;");
        CHECK.due("HOLES of the larger one", 30, holes.homes(0));
        CHECK.due("a smaller text of HOLES", 0, Check.read(holes, "row oo;row oo;spare s 0 0 0 0;"));
        CHECK.due("HOLES of the smaller one", 4, holes.count(8));
        CHECK.due("HOMES of the smaller one", 4, holes.homes(0));
        CHECK.due("a larger text", 0, Check.read(holes, "row aaa;row aaa;row aaa;"));
        CHECK.due("no HOLES", 0, holes.count(8));
        CHECK.due("pieces of the larger one", 9, holes.land(0, 0));
    }

    /** What one text told or had wrong is not counted in the next one. */
    private static void readAgain() {
        String full = "row aaaaaa;".repeat(5) + "knob 5 4 3 3;".repeat(40) + "spare a 0 0 0 0;spare b 0 0 0 0;spare c 0 0 0 0;spare d 0 0 0 0;spare e 0 0 0 0;"
            + "ways = " + "if 1 < 2 then 3 else ".repeat(4) + "((((((1))))));";
        JigsawHole hole = new JigsawHole();
        for (int i = 0; i < 5; i++) {
            CHECK.due("the full text, time " + i, 0, Check.read(hole, full));
            CHECK.due("its SPARES", 5, hole.count(2));
            CHECK.due("its ROWS", 5, hole.count(1));
        }
        String[] faulty = {"?", "row", "row a;".repeat(6), "spare s 0 0 0 0;spare s 0 0 0 0;", "knocks 101;", "row f;", "row ab;row a;", "row a;knob 1 0 0 0;",
            "ways = (((((((", "seed 12345;", "wet = " + "if 1 < 2 then 3 else ".repeat(5)};
        for (String fault : faulty) {
            for (String text : TEXTS) {
                JigsawHole next = new JigsawHole();
                CHECK.due("a FAULT ahead", true, Check.read(next, fault) > 0);
                CHECK.due("behind a FAULT: " + text, 0, Check.read(next, text));
                CHECK.due("place behind a FAULT: " + text, -1, next.place());
                CHECK.due("the same again: " + text, 0, Check.read(next, text));
                CHECK.due("a FAULT again", true, Check.read(next, fault) > 0);
                CHECK.due("place of the FAULT again", true, next.place() >= 0);
            }
        }
        JigsawHole two = Check.of("row a;spare a 0 0 0 0;spare b 0 0 0 0;");
        CHECK.due("the same NAMES in the next text", 0, Check.read(two, "row a;spare b 0 0 0 0;spare a 0 0 0 0;"));
        CHECK.due("KNOBS wait for no ROW of the one ahead", 6, Check.read(two, "knob 0 0 0 1;"));
        CHECK.due("KNOBS of the one ahead are none of this", 0, Check.read(two, "row o;"));
    }

    private static void lawsOfTheOneAhead() {
        for (String one : LAWS) {
            for (String other : LAWS) {
                JigsawHole hole = Check.of("row ab;" + one + " = 40;");
                CHECK.due("the next text", 0, Check.read(hole, "row ab;" + other + " = 30;"));
                hole.lay(0, 0);
                CHECK.due("WAYS " + one + " " + other, other.equals("ways") ? 30 : 1, hole.step(0, 0, 1));
                CHECK.due("TAXES " + one + " " + other, other.equals("taxes") ? 30 : 1, hole.land(0, 3));
                CHECK.due("WET " + one + " " + other, 1, hole.count(6));
                CHECK.due("FALLS " + one + " " + other, other.equals("falls") ? 30 : 50, hole.cell(0, 0, 3));
            }
        }
        for (int seed = 1; seed < 30; seed++) {
            JigsawHole hole = Check.of("knocks 1; seed " + seed + ";");
            Check.read(hole, "row a; knocks 50;");
            for (int day = 0; day < 8; day++) {
                CHECK.due("SEED not told behind " + seed, Check.lot(0, 64 * day) < 50 ? 1 : 0, hole.count(7));
                hole.days(1);
            }
            Check.read(hole, "row a; seed 3;");
            CHECK.due("KNOCKS not told behind 50", 0, hole.count(7));
        }
    }

    private static void longLaws() {
        String text = "row a; taxes = 1" + "+1".repeat(190) + ";";
        JigsawHole hole = new JigsawHole();
        for (int i = 0; i < 6; i++) {
            CHECK.due("a long LAW, time " + i, 0, Check.read(hole, text));
            hole.lay(0, 0);
            CHECK.due("all of it, time " + i, 191, hole.land(0, 3));
            CHECK.due("FALLS not told, time " + i, 50, hole.cell(0, 0, 3));
        }
    }

    private static void lastOnes() {
        JigsawHole hole = Check.of("row aa;knob 0 0 1 3;knob 1 0 1 1;knob 0 0 1 - 2;");
        CHECK.due("the last KNOB", -2, hole.knob(0, 0, 1));
        CHECK.due("the other one's KNOB", 1, hole.knob(1, 0, 1));
        CHECK.due("a KNOB not told", 0, hole.knob(0, 0, 0));
        for (String law : LAWS) {
            hole = Check.of("row a;" + law + " = 40;" + law + " = if 1 < 2 then 30 else 2; " + law + " = 0 - 1;" + law + " = 20; row b;");
            hole.lay(0, 0);
            CHECK.due("WAYS: the last " + law, law.equals("ways") ? 20 : 1, hole.step(0, 0, 2));
            CHECK.due("TAXES: the last " + law, law.equals("taxes") ? 20 : 1, hole.land(0, 3));
            CHECK.due("WET: the last " + law, 1, hole.count(6));
            CHECK.due("FALLS: the last " + law, law.equals("falls") ? 20 : 50, hole.cell(0, 0, 3));
        }
        CHECK.due("WET: the last one", 0, Check.of("wet = 1; wet = 0;").count(6));
        CHECK.due("KNOCKS: the last one", 1, Check.of("knocks 0; knocks 100;").count(7));
        for (int seed = 0; seed < 40; seed++) {
            String text = "knocks 50; seed 77; seed " + seed + ";";
            CHECK.due("SEED: the last one " + seed, Check.lot(seed, 0) < 50 ? 1 : 0, Check.of(text).count(7));
        }
        // 400 TOKENS in one LAW that is reckoned to its end, in the room that three more LAWS leave
        hole = Check.of("row a;" + "wet=1;" + "falls=2;" + "taxes=1" + "+1".repeat(192) + ";");
        hole.lay(0, 0);
        CHECK.due("the longest LAW", 193, hole.land(0, 3));
        CHECK.due("the LAW ahead of it", 2, hole.cell(0, 0, 3));
        hole = Check.of("wet=0;".repeat(99) + "wet=7;");
        CHECK.due("the 100th LAW", 1, hole.count(6));
    }
}
