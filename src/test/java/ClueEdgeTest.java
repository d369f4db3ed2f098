/** Part IV of the document, promises 34 to 38: the last that is taken, the first beyond it on either side. */
public final class ClueEdgeTest {
    private static final Check CHECK = new Check("ClueEdgeTest");
    private static final String FIVE = "spare a 0 1 2 3;spare b 3 2 1 0;spare c 1 1 1 1;spare d - 1 - 2 - 3 0;spare e 0 0 0 - 3;";

    public static void main(String[] args) {
        tell();
        tellRefused();
        twenty();
        forget();
        known();
        missing();
        missingBySides();
        sure();
        ask();
        askOfAlikeOnes();
        askAtWorst();
        askByEachTurn();
        withoutSpares();
        pressedOrNot();
        CHECK.end();
    }

    private static void due(String what, long want, long got) {
        CHECK.due(what, want, got);
    }

    /** An object to which sides and KNOBS, in turn, are TOLD. */
    private static JigsawHole told(String text, int... clues) {
        JigsawHole hole = Check.of(text);
        for (int i = 0; i < clues.length; i += 2) {
            due("tell " + i / 2, i / 2, hole.tell(clues[i], clues[i + 1]));
        }
        return hole;
    }

    private static void tell() {
        for (int side = 0; side < 4; side++) {
            JigsawHole hole = Check.of(FIVE);
            for (int knob = -3; knob <= 3; knob++) {
                due("tell side " + side + " knob " + knob, knob + 3, hole.tell(side, knob));
                due("TOLD", knob + 4, hole.count(11));
            }
            due("no thing done", 0, hole.count(10));
        }
        JigsawHole same = told(FIVE, 0, 1, 0, 1, 0, 2);
        due("the same is TOLD twice, and another of one SIDE", 3, same.count(11));
        due("missing of the same twice", same.missing(1), same.missing(2));
        due("missing of two KNOBS at one SIDE", 0, same.missing(3));
        due("a new object is TOLD too", 0, new JigsawHole().tell(3, 3));
    }

    private static void tellRefused() {
        JigsawHole hole = told(FIVE, 1, 2);
        String was = Check.state(hole);
        for (int odd : Check.beyond(4)) {
            due("tell SIDE " + odd, -1, hole.tell(odd, 0));
        }
        for (int odd : new int[] {-4, 4, -5, 5, -100, 100, Integer.MIN_VALUE, Integer.MAX_VALUE}) {
            due("tell KNOB " + odd, -1, hole.tell(0, odd));
        }
        CHECK.due("a tell that is refused", was, Check.state(hole));
        due("missing is as it was", 2, hole.missing(1));
        due("the next number", 1, hole.tell(0, 0));
    }

    private static void twenty() {
        JigsawHole hole = Check.of(FIVE);
        for (int n = 0; n < 19; n++) {
            due("tell", n, hole.tell(2, 1));
        }
        due("tell the 20th", 19, hole.tell(2, 3));
        String was = Check.state(hole);
        due("tell a 21st", -1, hole.tell(2, 1));
        due("tell a 21st that is none", -1, hole.tell(4, 9));
        CHECK.due("a 21st that is refused", was, Check.state(hole));
        due("missing of 19", 6, hole.missing(19));
        due("missing of 20", 0, hole.missing(20));
        due("missing of 21", -1, hole.missing(21));
        due("sure of 20", -2, hole.sure(20));
        due("sure of 21", -1, hole.sure(21));
        due("ask of 20", -2, hole.ask(20));
        due("ask of 21", -1, hole.ask(21));
        due("forget 20", 20, hole.forget());
        for (int n = 0; n < 20; n++) {
            due("tell anew", n, hole.tell(0, 0));
        }
        due("tell a 21st anew", -1, hole.tell(0, 0));
    }

    private static void forget() {
        JigsawHole hole = told("row a;" + FIVE, 0, 1, 1, 2);
        hole.lay(0, 0);
        hole.hold(0);
        due("forget", 2, hole.forget());
        due("forget of none", 0, hole.forget());
        due("TOLD", 0, hole.count(11));
        due("missing of none", 20, hole.missing(0));
        due("missing of what is forgotten", -1, hole.missing(1));
        due("sure of what is forgotten", -1, hole.sure(2));
        due("ask of what is forgotten", -1, hole.ask(1));
        due("what LIES stays", 1, hole.count(4));
        due("what is held stays", 1, hole.count(12));
        due("things that can be undone stay", 1, hole.count(10));
        due("the first number again", 0, hole.tell(3, 3));
        hole.undo();
        due("undo leaves what is TOLD", 1, hole.count(11));
        hole.restore(0);
        due("restore leaves what is TOLD", 1, hole.count(11));
        hole.days(9);
        due("days leave what is TOLD", 1, hole.count(11));
    }

    private static void known() {
        for (int n = 0; n <= 20; n++) {
            JigsawHole hole = Check.of(FIVE);
            for (int i = 0; i < n; i++) {
                hole.tell(0, 1);
            }
            for (int odd : Check.beyond(n + 1)) {
                due("missing " + odd + " of " + n, -1, hole.missing(odd));
                due("sure " + odd + " of " + n, -1, hole.sure(odd));
                due("ask " + odd + " of " + n, -1, hole.ask(odd));
            }
            due("missing of the last", n == 0 ? 20 : 6, hole.missing(n));
            due("sure of the last", -2, hole.sure(n));
            due("missing of none KNOWN", 20, hole.missing(0));
        }
    }

    private static void missing() {
        // up 0: a once, b once, d once, e thrice; then right of it
        JigsawHole hole = told(FIVE, 0, 0, 1, 0, 2, 0, 3, -3);
        int[] left = {20, 6, 2, 1, 1};
        for (int k = 0; k <= 4; k++) {
            due("missing by " + k, left[k], hole.missing(k));
        }
        due("sure by 1", -2, hole.sure(1));
        due("sure by 2, of two turns", 4, hole.sure(2));
        due("sure by 4", 4, hole.sure(4));
        due("ask by 4, of one", 0, hole.ask(4));
        JigsawHole alike = Check.of("spare c 1 1 1 1;");
        due("missing, each turn of alike ones", 4, alike.missing(0));
        due("sure of the one SPARE", 0, alike.sure(0));
        JigsawHole twins = told("spare c 1 1 1 1;spare d 1 1 1 1;", 0, 1);
        due("missing of two alike SPARES", 8, twins.missing(1));
        due("sure of two alike SPARES", -2, twins.sure(1));
    }

    private static void missingBySides() {
        for (int side = 0; side < 4; side++) {
            for (int knob = -3; knob <= 3; knob++) {
                JigsawHole hole = told(FIVE, side, knob);
                int want = 0;
                for (int i = 0; i < 20; i++) {
                    want += hole.spare(i / 4, i % 4, side) == knob ? 1 : 0;
                }
                due("missing with " + knob + " at " + side, want, hole.missing(1));
            }
        }
    }

    private static void sure() {
        due("sure of one with 3 and 0 next to it", -2, told(FIVE, 0, 3).sure(1));
        due("sure of the first", 0, told(FIVE, 0, 0, 1, 1).sure(2));
        due("sure of the second", 1, told(FIVE, 0, 3, 1, 2).sure(2));
        due("sure of the fourth", 3, told(FIVE, 2, -1).sure(1));
        due("sure of the last", 4, told(FIVE, 2, 0, 1, 0).sure(2));
        due("sure of none", -2, told(FIVE, 2, 0, 1, 0, 0, 1).sure(3));
        JigsawHole hole = told(FIVE, 0, 0, 1, 1, 3, 2);
        due("sure of what no more is", -2, hole.sure(3));
        due("sure by fewer still", 0, hole.sure(2));
    }

    private static void ask() {
        // left are the turns with 1 up: the other KNOBS tell more at this SIDE or that one
        String twoRight = "spare a 1 2 0 0;spare b 1 3 0 0;";
        due("ask right", 1, told(twoRight, 0, 1).ask(1));
        due("ask down", 2, told("spare a 1 0 2 0;spare b 1 0 3 0;", 0, 1).ask(1));
        due("ask left", 3, told("spare a 1 0 0 2;spare b 1 0 0 3;", 0, 1).ask(1));
        due("ask up", 0, told("spare a 2 0 0 1;spare b 3 0 0 1;", 3, 1).ask(1));
        due("ask of one left, the first", 0, told(twoRight, 0, 1, 1, 2).ask(2));
        due("ask of none left", -2, told(twoRight, 0, 1, 1, 2, 2, 3).ask(3));
        due("ask by fewer still", 1, told(twoRight, 0, 1, 1, 2, 2, 3).ask(1));
    }

    private static void askOfAlikeOnes() {
        due("ask of alike SIDES, none KNOWN", 0, Check.of(FIVE).ask(0));
        due("ask of one alike all round", 0, Check.of("spare a 1 1 1 1;").ask(0));
        due("ask of down and left alike", 2, told("spare a 1 0 2 3;spare b 1 0 3 2;", 0, 1).ask(1));
        due("ask of right and left alike", 1, told("spare a 1 2 0 3;spare b 1 3 0 2;", 0, 1).ask(1));
        due("ask of up and right alike", 0, told("spare a 2 3 0 1;spare b 3 2 0 1;", 3, 1).ask(1));
        due("ask of right and down alike", 1, told("spare a 1 2 3 0;spare b 1 3 2 0;", 0, 1).ask(1));
    }

    private static void askAtWorst() {
        // right: 2, 2, 2, 3, 0 (three at worst, three KNOBS); down: 0, 0, 3, 3, 2 (two at worst)
        String text = "spare a 1 2 0 - 1;spare b 1 2 0 - 1;spare c 1 2 3 - 1;spare d 1 3 3 - 1;spare e 1 0 2 - 1;";
        due("missing with 1 up", 5, told(text, 0, 1).missing(1));
        due("ask by what is left at worst", 2, told(text, 0, 1).ask(1));
        // two at worst is less than three at worst, though the three leave but one otherwise
        String lone = "spare a 1 2 2 - 3;spare b 1 2 2 - 3;spare c 1 2 3 - 3;spare d 1 3 3 - 3;";
        due("ask two and two ahead of three and one", 2, told(lone, 0, 1).ask(1));
        JigsawHole ends = told("spare a 1 3 - 3 0;spare b 1 - 3 - 3 0;", 0, 1);
        due("ask of KNOBS 3 and -3", 1, ends.ask(1));
    }

    /** The TELL of a SPARE that has those KNOBS when it is turned so often. */
    private static String turned(String name, int t, int... knobs) {
        StringBuilder tell = new StringBuilder("spare " + name);
        for (int side = 0; side < 4; side++) {
            int knob = knobs[(side + t) % 4];
            tell.append(knob < 0 ? " - " : " ").append(Math.abs(knob));
        }
        return tell.append(';').toString();
    }

    private static void askByEachTurn() {
        for (int t = 0; t < 4; t++) {
            for (int other = 0; other < 4; other++) {
                // right: 2, 2, 3; down: 0, 3, 3: two at worst either way, if each turn counts once
                String text = turned("a", t, 1, 2, 0, -1) + turned("b", other, 1, 2, 3, -1) + turned("c", other, 1, 3, 3, -1);
                JigsawHole hole = told(text, 0, 1, 1, 2, 2, 0);
                due("missing by turns " + t + " " + other, 3, hole.missing(1));
                due("ask by turns " + t + " " + other, 1, hole.ask(1));
                due("missing with 2 right " + t + " " + other, 2, hole.missing(2));
                due("ask with 2 right " + t + " " + other, 2, hole.ask(2));
                due("sure of the first " + t + " " + other, 0, hole.sure(3));
                // right: 2, 3, 3; down: 0, 0, 3
                text = turned("a", other, 1, 2, 0, -1) + turned("b", other, 1, 3, 0, -1) + turned("c", t, 1, 3, 3, -1);
                due("ask by turns of the last " + t + " " + other, 1, told(text, 0, 1).ask(1));
            }
        }
    }

    private static void withoutSpares() {
        JigsawHole hole = told("row a;", 0, 0);
        for (int k = 0; k <= 1; k++) {
            due("missing without SPARES", 0, hole.missing(k));
            due("sure without SPARES", -2, hole.sure(k));
            due("ask without SPARES", -2, hole.ask(k));
        }
        due("missing of no such k", -1, hole.missing(2));
        due("sure of no such k, NONE ahead of -2", -1, hole.sure(2));
        due("ask of no such k, NONE ahead of -2", -1, hole.ask(2));
        Check.read(hole, FIVE);
        due("a text forgets", -1, hole.missing(1));
        due("its SPARES", 20, hole.missing(0));
    }

    private static void pressedOrNot() {
        JigsawHole hole = told("row oo;" + FIVE, 0, 1);
        int left = hole.missing(1);
        hole.press(2, 0, 0, 1);
        hole.press(0, 1, 0, 1);
        due("missing, PRESSED or not", left, hole.missing(1));
        due("missing of all, PRESSED or not", 20, hole.missing(0));
        hole.tell(1, 1);
        due("sure of one that is PRESSED", 2, hole.sure(2));
    }
}
