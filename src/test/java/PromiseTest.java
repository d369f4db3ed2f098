/** Each promise by hand: ordinary calls, the edges that the document names, wrong ones. */
public final class PromiseTest {
    private static final Check CHECK = new Check("PromiseTest");
    private static final int[] ODD = {-1, -2, 7, 100, Integer.MIN_VALUE, Integer.MAX_VALUE};

    /** Lands a b c in a ring round a HOLE; the one pair (2, 0) (2, 1) does not FIT. */
    private static final String RING = "row aab; row aob; row ccb;"
        + "knob 0 0 1 2; knob 1 0 3 - 2; knob 1 0 2 1; knob 0 1 1 3; knob 2 1 3 - 1; knob 1 2 0 - 2;"
        + "knob 2 0 2 1; knob 2 1 0 1; spare sofa - 1 1 2 - 3; spare cat 1 1 1 1;";

    public static void main(String[] args) {
        newObject();
        feedBackRead();
        cell();
        knob();
        spare();
        land();
        layTake();
        press();
        days();
        knocks();
        undo();
        clash();
        calledSparesHomes();
        free();
        borderRichest();
        step();
        far();
        more();
        most();
        joinedLooseEmpire();
        ahead();
        stays();
        wetter();
        year();
        toldAndForgotten();
        missingSureAsk();
        slots();
        count();
        laws();
        CHECK.end();
    }

    private static void due(String what, long want, long got) {
        CHECK.due(what, want, got);
    }

    private static void due(String what, boolean want, boolean got) {
        CHECK.due(what, want, got);
    }

    private static void newObject() {
        due("NONE", -1, JigsawHole.NONE);
        JigsawHole x = new JigsawHole();
        for (int what = 0; what < 16; what++) {
            due("new: count " + what, what == 6 ? 1 : 0, x.count(what));
        }
        due("new: cell", -1, x.cell(0, 0, 0));
        due("new: most", 0, x.most());
        due("new: free", 0, x.free());
        due("new: empire", 0, x.empire());
        due("new: undo", false, x.undo());
        due("new: hold", true, x.hold(2));
        due("new: restore", true, x.restore(2));
        due("new: days", 4, x.days(4));
        due("new: undo days", true, x.undo());
        due("new: day", 0, x.count(3));
        due("new: missing", 0, x.missing(0));
        due("new: wetter", 0, x.wetter());
        due("new: year", -1, x.year(0, 0, 0, 0, 0, 1));
    }

    private static void feedBackRead() {
        JigsawHole x = new JigsawHole();
        // "row " "abc;" "    " "    " "seed"
        due("feed", 20, x.feed(0x726f7720, 0x6162633b, 0x20202020, 0x20202020, 0x73656564));
        due("back", 16, x.back(4));
        due("back too far", -1, x.back(17));
        due("back below 0", -1, x.back(-1));
        due("place", -1, x.place());
        due("read", 0, x.read());
        due("X", 3, x.count(0));
        x.feed(0x726f7720, 0x6162633b, 0x20202020, 0x20202020, 0x73656564);
        due("read a fault", 1, x.read());
        due("its place", 20, x.place());
        due("back of the empty tape", -1, x.back(1));
    }

    private static void cell() {
        JigsawHole x = Check.of("row ao; row bb; spare s 0 0 0 0;"
            + "falls = across * 10 + down + land * 5 + joined * 20 + day + same * 90 + size * 90 + parts * 90 + side * 90;");
        due("cell LAND a", 0, x.cell(0, 0, 0));
        due("cell HOLE", 9, x.cell(1, 0, 0));
        due("cell LAND b", 1, x.cell(1, 1, 0));
        due("cell not LYING", 0, x.cell(0, 0, 1));
        due("cell FITS, not LYING", 0, x.cell(0, 0, 2));
        due("cell FALLS, not LYING", 0, x.cell(0, 0, 3));
        due("cell nothing PRESSED", -2, x.cell(1, 0, 4));
        due("cell piece, nothing PRESSED", -2, x.cell(0, 0, 4));
        x.lay(0, 0);
        x.lay(0, 1);
        due("cell FITS next to a LYING one, not LYING", 0, x.cell(1, 1, 2));
        x.press(0, 1, 0, 2);
        due("cell LIES", 1, x.cell(0, 0, 1));
        due("cell PRESSED LIES", 1, x.cell(1, 0, 1));
        due("cell of a HOLE is one", 9, x.cell(1, 0, 0));
        due("cell FITS", 2, x.cell(0, 0, 2));
        due("cell FITS of a HOLE", 1, x.cell(1, 0, 2));
        due("cell FALLS", 40, x.cell(0, 0, 3));
        due("cell FALLS of a HOLE", 75, x.cell(1, 0, 3));
        due("cell FALLS below", 26, x.cell(0, 1, 3));
        due("cell PRESSED", 2, x.cell(1, 0, 4));
        due("cell LYING piece, nothing PRESSED", -2, x.cell(0, 0, 4));
        x.days(3);
        due("cell FALLS later", 43, x.cell(0, 0, 3));
        for (int odd : ODD) {
            due("cell X " + odd, -1, x.cell(odd, 0, 4));
            due("cell Y " + odd, -1, x.cell(0, odd, 0));
            due("cell what " + odd, -1, x.cell(0, 0, odd));
        }
        due("cell what 5", -1, x.cell(0, 0, 5));
        due("cell X 2", -1, x.cell(2, 0, 0));
        due("cell Y 2", -1, x.cell(0, 2, 0));
    }

    private static void knob() {
        JigsawHole x = Check.of("row ao; knob 0 0 0 1; knob 0 0 1 - 3; knob 0 0 2 2; knob 0 0 3 1; knob 0 0 3 3;"
            + "spare s 0 1 2 3;");
        int[] own = {1, -3, 2, 3};
        for (int side = 0; side < 4; side++) {
            due("knob " + side, own[side], x.knob(0, 0, side));
            due("knob of a HOLE " + side, -100, x.knob(1, 0, side));
        }
        x.lay(0, 0);
        due("knob LYING", -3, x.knob(0, 0, 1));
        due("press", true, x.press(0, 1, 0, 0));
        int[] turned = {0, 1, 2, 3};
        for (int side = 0; side < 4; side++) {
            due("knob PRESSED " + side, turned[side], x.knob(1, 0, side));
        }
        for (int odd : ODD) {
            due("knob odd X", -100, x.knob(odd, 0, 0));
            due("knob odd Y", -100, x.knob(0, odd, 0));
            due("knob odd SIDE", -100, x.knob(0, 0, odd));
        }
        due("knob SIDE 4", -100, x.knob(0, 0, 4));
        due("knob X 2", -100, x.knob(2, 0, 0));
        JigsawHole y = Check.of("row o; spare s 0 1 2 3;");
        due("press turned", true, y.press(0, 0, 0, 1));
        int[] once = {3, 0, 1, 2};
        for (int side = 0; side < 4; side++) {
            due("knob PRESSED once turned " + side, once[side], y.knob(0, 0, side));
        }
    }

    private static void spare() {
        JigsawHole x = Check.of("spare s - 3 1 2 3; spare t 1 0 0 0;");
        int[][] turns = {{-3, 1, 2, 3}, {3, -3, 1, 2}, {2, 3, -3, 1}, {1, 2, 3, -3}};
        for (int t = 0; t < 4; t++) {
            for (int side = 0; side < 4; side++) {
                due("spare t " + t + " side " + side, turns[t][side], x.spare(0, t, side));
                due("spare 1 t " + t + " side " + side, t == side ? 1 : 0, x.spare(1, t, side));
            }
        }
        due("spare 2", -100, x.spare(2, 0, 0));
        due("spare turns 4", -100, x.spare(0, 4, 0));
        due("spare side 4", -100, x.spare(0, 0, 4));
        for (int odd : ODD) {
            due("spare odd", -100, x.spare(odd, 0, 0));
            due("spare odd turns", -100, x.spare(0, odd, 0));
            due("spare odd side", -100, x.spare(0, 0, odd));
        }
    }

    private static void land() {
        JigsawHole x = Check.of("row aba; row eoa; taxes = land * 100 + size * 10 + parts + day + across + down + same + side + joined;");
        due("land a has", 3, x.land(0, 0));
        due("land b has", 1, x.land(1, 0));
        due("land d has", 0, x.land(3, 0));
        due("land e has", 1, x.land(4, 0));
        due("land TAXES, none LIES", 0, x.land(4, 3));
        x.lay(0, 0);
        x.lay(2, 0);
        due("land LIE", 2, x.land(0, 1));
        due("land PARTS", 2, x.land(0, 2));
        due("land TAXES", 22, x.land(0, 3));
        x.lay(2, 1);
        due("land PARTS joined", 2, x.land(0, 2));
        x.lay(1, 0);
        due("land PARTS by that LAND alone", 2, x.land(0, 2));
        due("land TAXES of 3", 32, x.land(0, 3));
        due("land TAXES of b", 111, x.land(1, 3));
        x.days(1);
        due("land TAXES later", 33, x.land(0, 3));
        due("land PARTS of none", 0, x.land(4, 2));
        due("land 5", -1, x.land(5, 0));
        due("land what 4", -1, x.land(0, 4));
        for (int odd : ODD) {
            due("land odd", -1, x.land(odd, 0));
            due("land odd what", -1, x.land(0, odd));
        }
        JigsawHole high = Check.of("row a; row b; taxes = if land < 1 then 5000 else 0 - 3;");
        high.lay(0, 0);
        high.lay(0, 1);
        due("land TAXES held to 999", 999, high.land(0, 3));
        due("land TAXES held to 0", 0, high.land(1, 3));
    }

    private static void layTake() {
        JigsawHole x = Check.of("row aao; knob 0 0 1 1; wet = 2 - day; spare s 0 0 0 0;");
        due("lay", true, x.lay(0, 0));
        due("lay again", false, x.lay(0, 0));
        due("lay what does not FIT", false, x.lay(1, 0));
        due("lay a HOLE", false, x.lay(2, 0));
        due("lay X 3", false, x.lay(3, 0));
        due("lay Y 1", false, x.lay(0, 1));
        due("undoable", 1, x.count(10));
        due("take what does not LIE", false, x.take(1, 0));
        due("take an empty HOLE", false, x.take(2, 0));
        due("take", true, x.take(0, 0));
        due("LIES no more", 0, x.cell(0, 0, 1));
        due("lay the other one", true, x.lay(1, 0));
        due("lay next to it", false, x.lay(0, 0));
        x.days(2);
        due("lay when not WET", false, x.lay(0, 0));
        due("take when not WET", false, x.take(1, 0));
        due("it LIES", 1, x.cell(1, 0, 1));
        for (int odd : ODD) {
            due("lay odd X", false, x.lay(odd, 0));
            due("lay odd Y", false, x.lay(0, odd));
            due("take odd X", false, x.take(odd, 0));
            due("take odd Y", false, x.take(0, odd));
        }
        JigsawHole dry = Check.of("row a; wet = 0;");
        due("lay at WET 0", false, dry.lay(0, 0));
    }

    private static void press() {
        JigsawHole x = Check.of("row aoo; knob 0 0 1 2; spare s - 2 0 0 0; spare t 0 0 0 0; spare u 0 0 0 - 2; wet = 1 - day;");
        x.lay(0, 0);
        due("press does not FIT", false, x.press(0, 1, 0, 0));
        due("press turned so that up is left", true, x.press(0, 1, 0, 3));
        due("PRESSED", 3, x.cell(1, 0, 4));
        due("press where something LIES", false, x.press(2, 1, 0, 0));
        due("press the same elsewhere", false, x.press(0, 2, 0, 0));
        due("press another one", true, x.press(1, 2, 0, 2));
        due("PRESSED too", 12, x.cell(2, 0, 4));
        due("PRESSED ones", 3, x.count(14));
        due("take a PRESSED one", true, x.take(2, 0));
        due("PRESSED ones then", 1, x.count(14));
        due("press it again", true, x.press(1, 2, 0, 0));
        due("take it again", true, x.take(2, 0));
        due("press on a piece", false, x.press(1, 0, 0, 0));
        due("press turns 4", false, x.press(1, 2, 0, 4));
        due("press spare 3", false, x.press(3, 2, 0, 0));
        due("press X 3", false, x.press(1, 3, 0, 0));
        for (int odd : ODD) {
            due("press odd spare", false, x.press(odd, 2, 0, 0));
            due("press odd X", false, x.press(1, odd, 0, 0));
            due("press odd Y", false, x.press(1, 2, odd, 0));
            due("press odd turns", false, x.press(1, 2, 0, odd));
        }
        due("things done", 6, x.count(10));
        x.days(1);
        due("press when not WET", false, x.press(1, 2, 0, 0));
    }

    private static void days() {
        JigsawHole x = Check.of("row ab; taxes = 10 + land + day;");
        due("days 0", 0, x.days(0));
        due("nothing done", 0, x.count(10));
        x.lay(0, 0);
        due("days 1", 1, x.days(1));
        due("TAXES of a LYING LAND alone", 10, x.count(5));
        x.lay(1, 0);
        due("days 2", 3, x.days(2));
        due("TAXES by day", 10 + (11 + 12) + (12 + 13), x.count(5));
        due("days 60", 63, x.days(60));
        due("days 61", -1, x.days(61));
        due("days -1", -1, x.days(-1));
        due("days MIN", -1, x.days(Integer.MIN_VALUE));
        due("the day", 63, x.count(3));
        due("things done", 5, x.count(10));
    }

    private static void knocks() {
        String text = "row abcdea; row bcdeab; row cdeabc; knocks 40; seed 77; falls = 30 + joined * 5 + day;";
        JigsawHole x = Check.of(text);
        boolean[] lies = new boolean[18];
        for (int at = 0; at < 18; at++) {
            lies[at] = x.lay(at % 6, at / 6);
        }
        int took = 0;
        for (int day = 0; day < 12; day++) {
            boolean knock = Check.lot(77, 64 * day) < 40;
            due("KNOCK on " + day, knock ? 1 : 0, x.count(7));
            boolean[] then = lies.clone();
            for (int at = 0; at < 18 && knock; at++) {
                int joined = (at % 6 > 0 && then[at - 1] ? 1 : 0) + (at % 6 < 5 && then[at + 1] ? 1 : 0)
                    + (at >= 6 && then[at - 6] ? 1 : 0) + (at < 12 && then[at + 6] ? 1 : 0);
                if (then[at] && Check.lot(77, 64 * day + 1 + at) < 30 + joined * 5 + day) {
                    lies[at] = false;
                    took++;
                }
            }
            x.days(1);
            for (int at = 0; at < 18; at++) {
                due("behind day " + day + " cell " + at, lies[at] ? 1 : 0, x.cell(at % 6, at / 6, 1));
            }
            due("TOOK behind day " + day, took, x.count(13));
        }
        JigsawHole never = Check.of("row ab; falls = 100;");
        never.lay(0, 0);
        never.days(60);
        due("no KNOCKS told", 1, never.count(4));
        JigsawHole all = Check.of("row ao; spare s 0 0 0 0; knocks 100; falls = 100;");
        all.lay(0, 0);
        all.press(0, 1, 0, 0);
        all.days(1);
        due("a KNOCK takes all", 0, all.count(4));
        due("a KNOCK frees SPARES", 0, all.count(14));
        due("TAXES ahead of the KNOCK", 1, all.count(5));
        due("TOOK two", 2, all.count(13));
        due("press it again", true, all.press(0, 1, 0, 1));
        JigsawHole half = Check.of("row aaaaaa; row aaaaaa; row aaaaaa; row aaaaaa; row aaaaaa; knocks 100; seed 3;");
        int left = 0;
        for (int at = 0; at < 30; at++) {
            half.lay(at % 6, at / 6);
            left += Check.lot(3, 1 + at) < 50 ? 0 : 1;
        }
        half.days(1);
        due("FALLS 50 if not told", left, half.count(4));
        JigsawHole unseeded = Check.of("knocks 50;");
        for (int day = 0; day < 60; day++) {
            due("SEED 0 if not told, day " + day, Check.lot(0, 64 * day) < 50 ? 1 : 0, unseeded.count(7));
            unseeded.days(1);
        }
    }

    private static void undo() {
        JigsawHole x = Check.of("row aao; spare s 0 0 0 0; knocks 100; falls = 50; seed 2;");
        x.lay(0, 0);
        x.lay(1, 0);
        x.press(0, 2, 0, 1);
        x.days(3);
        int left = x.count(4);
        int tax = x.count(5);
        due("days(0) between", 3, x.days(0));
        due("undo days", true, x.undo());
        due("the day", 0, x.count(3));
        due("LYING", 3, x.count(4));
        due("TAXES", 0, x.count(5));
        due("TOOK", 0, x.count(13));
        x.days(3);
        due("the same days again", left, x.count(4));
        due("the same TAXES again", tax, x.count(5));
        x.undo();
        due("undo press", true, x.undo());
        due("nothing PRESSED", -2, x.cell(2, 0, 4));
        x.take(0, 0);
        due("undo take", true, x.undo());
        due("it LIES", 1, x.cell(0, 0, 1));
        due("undo lay", true, x.undo());
        due("undo lay", true, x.undo());
        due("undo no more", false, x.undo());
        JigsawHole y = Check.of("row a;");
        y.lay(0, 0);
        for (int i = 0; i < 40; i++) {
            due("a failed one", false, y.lay(0, 0));
            due("day by day", i + 1, y.days(1));
        }
        due("40 can be undone", 40, y.count(10));
        for (int i = 40; i > 0; i--) {
            due("undo day", true, y.undo());
            due("the day before", i - 1, y.count(3));
        }
        due("the 41st", false, y.undo());
        due("it LIES still", 1, y.cell(0, 0, 1));
    }

    private static void clash() {
        JigsawHole x = Check.of("row aaa; row aao; row aaa; knob 1 1 0 1; knob 1 1 1 1; knob 1 1 2 1; knob 1 1 3 1; spare s 0 0 0 - 1; spare t 0 0 0 0;");
        due("clash with none LYING", 0, x.clash(1, 1));
        x.lay(1, 0);
        due("clash up", 1, x.clash(1, 1));
        x.press(1, 2, 1, 0);
        due("clash up and right", 3, x.clash(1, 1));
        x.lay(1, 2);
        x.lay(0, 1);
        due("clash all", 15, x.clash(1, 1));
        due("clash of a LYING one", 0, x.clash(0, 1));
        due("clash of a PRESSED one", 0, x.clash(2, 1));
        x.take(2, 1);
        due("clash of an empty HOLE", -1, x.clash(2, 1));
        due("clash but right", 13, x.clash(1, 1));
        for (int odd : ODD) {
            due("clash odd X", -1, x.clash(odd, 0));
            due("clash odd Y", -1, x.clash(0, odd));
        }
        JigsawHole y = Check.of("row a; row a; knob 0 0 2 1;");
        y.lay(0, 1);
        due("clash down", 4, y.clash(0, 0));
        y = Check.of("row aa; knob 0 0 1 1;");
        y.lay(0, 0);
        due("clash left", 8, y.clash(1, 0));
    }

    private static void calledSparesHomes() {
        JigsawHole x = Check.of(RING);
        int[] called = {-1, 1, 2, -3};
        for (int side = 0; side < 4; side++) {
            due("called " + side, called[side], x.called(1, 1, side));
            due("called of a piece", -100, x.called(0, 0, side));
        }
        due("called SIDE 4", -100, x.called(1, 1, 4));
        due("called SIDE -1", -100, x.called(1, 1, -1));
        due("called X 3", -100, x.called(3, 1, 0));
        due("spares", 1, x.spares(1, 1, 0));
        due("spares first", 0, x.spares(1, 1, 1));
        due("spares what 2", -1, x.spares(1, 1, 2));
        due("spares what -1", -1, x.spares(1, 1, -1));
        due("spares of a piece", -1, x.spares(0, 0, 1));
        due("spares of no CELL", -1, x.spares(3, 3, 1));
        due("homes", 1, x.homes(0));
        due("homes of the other", 0, x.homes(1));
        due("homes of none", -1, x.homes(2));
        due("homes odd", -1, x.homes(-1));
        x.press(0, 1, 1, 0);
        due("spares PRESSED", 1, x.spares(1, 1, 0));
        due("homes PRESSED", 1, x.homes(0));
        due("called PRESSED", 2, x.called(1, 1, 2));
        JigsawHole y = Check.of("row oao; row ooo; knob 1 0 2 3; knob 1 0 1 1; spare s 0 0 0 0; spare t 0 0 0 - 1; spare u - 3 0 0 0;");
        due("called zero", 0, y.called(0, 0, 1));
        due("called over the edge", -100, y.called(0, 0, 0));
        due("called over a HOLE", -100, y.called(0, 0, 2));
        due("called left", -1, y.called(2, 0, 3));
        due("called up", -3, y.called(1, 1, 0));
        due("spares with one 0", 4 + 3 + 3, y.spares(0, 0, 0));
        due("spares right of it", 1, y.spares(2, 0, 0));
        due("spares right of it, first", 10, y.spares(2, 0, 1));
        due("spares below it, first", 20, y.spares(1, 1, 1));
        due("spares free HOLE", 12, y.spares(0, 1, 0));
        due("homes s", 3, y.homes(0));
        due("homes t", 4, y.homes(1));
        due("homes u", 4, y.homes(2));
        y.press(0, 0, 1, 0);
        due("called over a PRESSED one", -100, y.called(1, 1, 3));
        due("spares not looked at HOLES", 1, y.spares(1, 1, 0));
        JigsawHole none = Check.of("row oa; knob 1 0 3 2; spare s 0 0 0 0;");
        due("spares none", 0, none.spares(0, 0, 0));
        due("spares none, first", -2, none.spares(0, 0, 1));
        due("first turned thrice", 3, Check.of("row oa; knob 1 0 3 2; spare s 0 0 - 2 0;").spares(0, 0, 1));
    }

    private static void free() {
        JigsawHole x = Check.of("row aaa; row aoa; knob 1 0 1 1; wet = 1 - day;");
        due("free at first", 5, x.free());
        x.lay(1, 0);
        due("free but the one that clashes", 3, x.free());
        x.days(1);
        due("free were it WET", 3, x.free());
        due("free of a full table", 0, full("row ab; row cd;").free());
    }

    private static JigsawHole full(String text) {
        JigsawHole x = Check.of(text);
        for (int at = 0; at < 30; at++) {
            x.lay(at % 6, at / 6);
        }
        return x;
    }

    private static void borderRichest() {
        JigsawHole x = full("row abab; row bobb; row aabb; knob 0 2 1 1; knob 0 1 2 1; taxes = if land < 1 then 7 else size;");
        due("laid", 10, x.count(4));
        due("border a b", 6, x.border(0, 1));
        due("border b a", 6, x.border(1, 0));
        due("border a c", 0, x.border(0, 2));
        due("border a a", -1, x.border(0, 0));
        due("border 5", -1, x.border(0, 5));
        due("border -1", -1, x.border(-1, 0));
        due("border MIN", -1, x.border(Integer.MIN_VALUE, Integer.MAX_VALUE));
        x.take(1, 0);
        due("border LYING alone", 4, x.border(0, 1));
        JigsawHole y = Check.of("row abc; taxes = if land < 1 then 3 else 5;");
        due("richest of none", 0, y.richest(0));
        due("richest of none, how much", 0, y.richest(1));
        y.lay(0, 0);
        due("richest a", 0, y.richest(0));
        due("richest a, how much", 3, y.richest(1));
        y.lay(2, 0);
        due("richest c", 2, y.richest(0));
        y.lay(1, 0);
        due("richest of alike ones", 1, y.richest(0));
        due("richest, how much", 5, y.richest(1));
        due("richest 2", -1, y.richest(2));
        due("richest -1", -1, y.richest(-1));
        JigsawHole poor = Check.of("row ob; taxes = 0;");
        poor.lay(1, 0);
        due("richest without TAXES", 0, poor.richest(0));
    }

    private static void step() {
        JigsawHole x = Check.of("row abb; row ooc; ways = across + 2 * down + 4 * land + 10 * same + 20 * side + day + joined + size + parts;");
        due("step right", 20, x.step(0, 0, 1));
        due("step down to a HOLE", 40, x.step(0, 0, 2));
        due("step of one LAND", 1 + 4 + 10 + 20, x.step(1, 0, 1));
        due("step left", 1 + 4 + 60, x.step(1, 0, 3));
        due("step left of one LAND", 2 + 4 + 10 + 60, x.step(2, 0, 3));
        due("step from a HOLE", 2 + 36, x.step(0, 1, 0));
        due("step from c", 2 + 2 + 8, x.step(2, 1, 0));
        due("step held to 99", 99, x.step(1, 1, 3));
        due("step over the edge", -1, x.step(0, 0, 0));
        due("step over the left edge", -1, x.step(0, 0, 3));
        due("step over the right edge", -1, x.step(2, 0, 1));
        due("step over the lower edge", -1, x.step(2, 1, 2));
        for (int odd : ODD) {
            due("step odd X", -1, x.step(odd, 0, 1));
            due("step odd Y", -1, x.step(0, odd, 1));
            due("step odd SIDE", -1, x.step(0, 0, odd));
        }
        due("step SIDE 4", -1, x.step(0, 0, 4));
        x.days(5);
        due("step later", 25, x.step(0, 0, 1));
        due("step held to 1", 1, Check.of("row aa; ways = 0 - 5;").step(0, 0, 1));
        due("step if not told", 1, Check.of("row aa;").step(0, 0, 1));
        due("step between HOLES is of no LAND", 5, Check.of("row oo; ways = 5 + same;").step(0, 0, 1));
        due("step between two of one LAND", 6, Check.of("row aa; ways = 5 + same;").step(0, 0, 1));
    }

    private static void far() {
        JigsawHole x = full("row aaa; row oaa; row aaa; ways = if side < 2 then 1 + 9 * down else 3;");
        due("far right", 2, x.far(0, 0, 2, 0));
        due("far left", 6, x.far(2, 0, 0, 0));
        due("far to itself", 0, x.far(1, 1, 1, 1));
        due("far round about", 3 + 3 + 1 + 1, x.far(0, 0, 2, 2));
        due("far up", 19 + 19 + 10 + 1, x.far(0, 2, 2, 0));
        due("far to what does not LIE", -2, x.far(0, 0, 0, 1));
        due("far from what does not LIE", -2, x.far(0, 1, 0, 0));
        due("far from it to itself", -2, x.far(0, 1, 0, 1));
        due("far to no CELL", -1, x.far(0, 0, 3, 0));
        due("far from no CELL to what does not LIE", -1, x.far(-1, 0, 0, 1));
        x.take(1, 0);
        x.take(1, 1);
        due("far round the hole", -2, x.far(0, 0, 1, 2));
        JigsawHole y = Check.of("row aoa; spare s 0 0 0 0; ways = 4 + day;");
        y.lay(0, 0);
        y.lay(2, 0);
        due("far, not JOINED", -2, y.far(0, 0, 2, 0));
        y.press(0, 1, 0, 0);
        due("far over a SPARE", 8, y.far(0, 0, 2, 0));
        y.days(2);
        due("far later", 12, y.far(0, 0, 2, 0));
        due("far to a SPARE", 6, y.far(0, 0, 1, 0));
    }

    private static void more() {
        JigsawHole x = Check.of("row aaaa; row aooa; row aaaa; knob 1 0 1 1;");
        due("more round about", 8, x.more(0, 0, 3, 0));
        due("more next to each other, not FITTING", 10, x.more(1, 0, 2, 0));
        due("more to itself", 1, x.more(0, 0, 0, 0));
        x.lay(0, 1);
        x.lay(0, 0);
        x.lay(3, 2);
        due("more with three LYING", 5, x.more(0, 0, 3, 0));
        due("more to itself LYING", 0, x.more(0, 0, 0, 0));
        due("more JOINED", 0, x.more(0, 0, 0, 1));
        due("more one", 1, x.more(0, 0, 1, 0));
        due("more of a HOLE", -1, x.more(0, 0, 1, 1));
        due("more from a HOLE", -1, x.more(1, 1, 0, 0));
        due("more of no CELL", -1, x.more(0, 0, 4, 0));
        due("more not", -2, Check.of("row aa; knob 0 0 1 1;").more(0, 0, 1, 0));
        JigsawHole y = Check.of("row aoa; spare s 0 0 0 0;");
        y.lay(0, 0);
        y.lay(2, 0);
        y.press(0, 1, 0, 0);
        due("more with HOLES not used", -2, y.more(0, 0, 2, 0));
    }

    private static void most() {
        due("most where all FIT", 30, Check.of("row aaaaaa; row aaaaaa; row aaaaaa; row aaaaaa; row aaaaaa;").most());
        StringBuilder bars = new StringBuilder("row aaaaaa; row aaaaaa; row aaaaaa; row aaaaaa; row aaaaaa;");
        for (int at = 0; at < 30; at++) {
            if (at % 6 == 1 || at % 6 == 4) {
                bars.append("knob ").append(at % 6).append(' ').append(at / 6).append(" 1 1;");
                bars.append("knob ").append(at % 6).append(' ').append(at / 6).append(" 3 1;");
            }
        }
        due("most where columns clash", 20, Check.of(bars.toString()).most());
        due("most where all clash", 5, Check.of("row aaa; row aaa; row aaa;"
            + "knob 0 0 1 1; knob 0 0 2 1; knob 2 0 2 1; knob 2 0 3 1; knob 0 2 0 1; knob 0 2 1 1; knob 2 2 0 1; knob 2 2 3 1;"
            + "knob 1 1 0 1; knob 1 1 1 1; knob 1 1 2 1; knob 1 1 3 1;").most());
        due("most of a row", 2, Check.of("row aaa; knob 0 0 1 1; knob 1 0 1 1;").most());
        due("most of a column", 2, Check.of("row a; row a; row a; knob 0 0 2 1; knob 0 1 2 1;").most());
        due("most with a HOLE", 2, Check.of("row aoa; knob 0 0 1 1;").most());
        due("most of one row", 1, Check.of("row aa; knob 0 0 1 1;").most());
        JigsawHole x = Check.of("row aaa; knob 0 0 1 1; knob 1 0 1 1;");
        x.lay(1, 0);
        due("most whatever LIES", 2, x.most());
        due("most of a square", 2, Check.of("row aa; row aa; knob 0 0 1 1; knob 0 0 2 1; knob 1 1 0 1; knob 1 1 3 1;").most());
    }

    private static void joinedLooseEmpire() {
        JigsawHole x = Check.of("row aaoaa; row ooooo; row abooa; spare s 0 0 0 0;");
        x.lay(0, 0);
        x.lay(1, 0);
        x.lay(3, 0);
        x.lay(4, 0);
        x.lay(4, 2);
        due("joined", 2, x.joined(0, 0));
        due("joined alone", 1, x.joined(4, 2));
        due("joined to what does not LIE", -2, x.joined(0, 2));
        due("joined to an empty HOLE", -2, x.joined(2, 0));
        due("joined to no CELL", -1, x.joined(5, 0));
        due("joined to no CELL", -1, x.joined(0, -1));
        due("loose", 1, x.loose());
        due("empire", 2, x.empire());
        x.press(0, 2, 0, 0);
        due("joined by a SPARE", 5, x.joined(0, 0));
        due("joined to a SPARE", 5, x.joined(2, 0));
        due("empire by a SPARE", 5, x.empire());
        due("loose still", 1, x.loose());
        due("empire of nothing", 0, Check.of("row a;").empire());
        due("loose of nothing", 0, Check.of("row a;").loose());
    }

    private static void ahead() {
        JigsawHole x = full("row abc; row bca; knocks 50; seed 9; falls = 40; taxes = size + day;");
        for (int n = 0; n <= 60; n += 7) {
            int lies = x.liesIn(n);
            int tax = x.taxIn(n);
            int was = x.count(5);
            if (n > 0) {
                x.days(n);
            }
            due("liesIn " + n, x.count(4), lies);
            due("taxIn " + n, x.count(5) - was, tax);
            if (n > 0) {
                x.undo();
            }
        }
        x.days(2);
        due("taxIn 0", 0, x.taxIn(0));
        due("liesIn 0", x.count(4), x.liesIn(0));
        due("nothing happened", 2, x.count(3));
        for (int odd : new int[] {-1, 61, Integer.MIN_VALUE, Integer.MAX_VALUE}) {
            due("liesIn " + odd, -1, x.liesIn(odd));
            due("taxIn " + odd, -1, x.taxIn(odd));
        }
        due("taxIn 60 of one", 60, full("row a;").taxIn(60));
    }

    private static void stays() {
        JigsawHole x = full("row ab; knocks 100; falls = if day < 4 then 0 else if across < 1 then 100 else if day < 199 then 0 else 100;");
        due("stays of a", 5, x.stays(0, 0));
        due("stays of b", 200, x.stays(1, 0));
        due("nothing happened", 0, x.count(3));
        x.days(1);
        due("stays of a later", 4, x.stays(0, 0));
        due("stays of b later", 199, x.stays(1, 0));
        x.take(0, 0);
        due("stays of nothing", -2, x.stays(0, 0));
        due("stays of no CELL", -1, x.stays(2, 0));
        due("stays of no CELL", -1, x.stays(0, -1));
        JigsawHole y = full("row a; knocks 100; falls = if day < 200 then 0 else 100;");
        due("stays for good", -2, y.stays(0, 0));
        JigsawHole z = full("row a; falls = 100;");
        due("stays without KNOCKS", -2, z.stays(0, 0));
    }

    private static void wetter() {
        due("wetter now", 0, Check.of("wet = 1;").wetter());
        due("wetter in 200", 200, Check.of("wet = day - 199;").wetter());
        due("wetter not", -2, Check.of("wet = day - 200;").wetter());
        JigsawHole x = Check.of("wet = day - 200;");
        x.days(7);
        due("wetter later", 194, x.wetter());
        due("wetter never", -2, Check.of("wet = 0 - day;").wetter());
        due("wetter by a division", 3, Check.of("wet = 5 / (2 - day) + 6 * (day - 2);").wetter());
    }

    private static void year() {
        JigsawHole x = full("row abcd; row dcba; knocks 30; seed 4000; falls = 25 + joined;");
        for (int s = 1; s <= 20; s += 19) {
            for (int n = 0; n <= 60; n += n < 10 ? 2 : 50) {
                int want = 0;
                for (int i = 0; i < s; i++) {
                    JigsawHole y = full("row abcd; row dcba; knocks 30; seed " + (4000 + i) + "; falls = 25 + joined;");
                    y.days(n);
                    want += y.far(0, 0, 3, 1) >= 0 ? 1 : 0;
                }
                due("year of " + n + " by " + s, want, x.year(0, 0, 3, 1, n, s));
            }
        }
        due("year in no day", 20, x.year(0, 0, 3, 1, 0, 20));
        due("year with itself", 20, x.year(0, 0, 0, 0, 0, 20));
        x.take(0, 0);
        due("year of what does not LIE", 0, x.year(0, 0, 3, 1, 0, 20));
        due("year with itself that does not LIE", 0, x.year(0, 0, 0, 0, 3, 5));
        due("year n -1", -1, x.year(0, 0, 3, 1, -1, 1));
        due("year n 61", -1, x.year(0, 0, 3, 1, 61, 1));
        due("year s 0", -1, x.year(0, 0, 3, 1, 1, 0));
        due("year s 21", -1, x.year(0, 0, 3, 1, 1, 21));
        due("year of no CELL", -1, x.year(4, 0, 3, 1, 1, 1));
        due("year to no CELL", -1, x.year(0, 0, 3, 2, 1, 1));
        JigsawHole apart = Check.of("row aoa; knocks 100; falls = 0;");
        apart.lay(0, 0);
        apart.lay(2, 0);
        due("year of two not JOINED", 0, apart.year(0, 0, 2, 0, 5, 20));
        due("year of a HOLE", 0, apart.year(0, 0, 1, 0, 5, 20));
        due("nothing happened", 2, apart.count(4));
    }

    private static void toldAndForgotten() {
        JigsawHole x = Check.of("spare s 0 0 0 0;");
        for (int i = 0; i < 20; i++) {
            due("tell " + i, i, x.tell(i % 4, i % 7 - 3));
        }
        due("tell a 21st", -1, x.tell(0, 0));
        due("TOLD", 20, x.count(11));
        due("forget", 20, x.forget());
        due("forget again", 0, x.forget());
        due("TOLD then", 0, x.count(11));
        due("tell anew", 0, x.tell(0, 3));
        due("tell KNOB 4", -1, x.tell(0, 4));
        due("tell KNOB -4", -1, x.tell(0, -4));
        due("tell SIDE 4", -1, x.tell(4, 0));
        due("tell SIDE -1", -1, x.tell(-1, 0));
        due("TOLD one", 1, x.count(11));
        due("nothing to undo", 0, x.count(10));
    }

    private static void missingSureAsk() {
        JigsawHole x = Check.of("spare s 1 1 1 1; spare t 1 2 1 2; spare u 1 2 3 0;");
        due("missing of all", 12, x.missing(0));
        due("sure of all", -2, x.sure(0));
        // up: s 4 of 1; t 2 of 1, 2 of 2; u 1, 2, 3, 0: 7 at worst, whichever SIDE
        due("ask of all", 0, x.ask(0));
        x.tell(0, 1);
        due("missing up 1", 4 + 2 + 1, x.missing(1));
        due("missing of none KNOWN", 12, x.missing(0));
        // right: s 1 x4, t 2 x2, u 2 x1: 4; down: 1 x4, 1 x2, 3: 6; left: 1 x4, 2 x2, 0: 4
        due("ask up 1", 1, x.ask(1));
        x.tell(2, 3);
        due("missing down 3", 1, x.missing(2));
        due("sure down 3", 2, x.sure(2));
        due("ask of one", 0, x.ask(2));
        x.tell(1, -3);
        due("missing of none", 0, x.missing(3));
        due("sure of none", -2, x.sure(3));
        due("ask of none", -2, x.ask(3));
        due("missing by fewer", 7, x.missing(1));
        for (int odd : new int[] {-1, 4, 21, Integer.MIN_VALUE, Integer.MAX_VALUE}) {
            due("missing " + odd, -1, x.missing(odd));
            due("sure " + odd, -1, x.sure(odd));
            due("ask " + odd, -1, x.ask(odd));
        }
        x.forget();
        due("missing when forgotten", -1, x.missing(1));
        x.tell(0, 2);
        due("missing up 2", 3, x.missing(1));
        due("sure up 2, this or that one", -2, x.sure(1));
        x.tell(1, 1);
        due("missing up 2, right 1", 2, x.missing(2));
        due("sure of two turns of one", 1, x.sure(2));
        JigsawHole y = Check.of("spare s 0 0 0 1; spare t 0 0 0 2;");
        y.tell(0, 0);
        // left t 0 .. : the 1 or the 2 is right, down or left of it
        due("ask of alike ones the first", 1, y.ask(1));
        y.tell(1, 0);
        due("ask then", 2, y.ask(2));
        JigsawHole z = Check.of("spare s 0 0 0 3;");
        due("sure of the one", 0, z.sure(0));
    }

    private static void slots() {
        JigsawHole x = Check.of("row aao; spare s 0 0 0 0; knocks 100; falls = 100;");
        x.lay(0, 0);
        x.press(0, 2, 0, 3);
        due("restore nothing held", false, x.restore(0));
        due("undoable still", 2, x.count(10));
        due("hold", true, x.hold(0));
        due("hold 3", false, x.hold(3));
        due("hold -1", false, x.hold(-1));
        due("restore 3", false, x.restore(3));
        due("restore -1", false, x.restore(-1));
        due("SLOTS", 1, x.count(12));
        due("hold is no thing done", 2, x.count(10));
        x.tell(0, 1);
        x.days(1);
        due("taken", 0, x.count(4));
        Check.feedText(x, "abc");
        due("hold too", true, x.hold(2));
        due("SLOTS two", 2, x.count(12));
        due("restore", true, x.restore(0));
        due("LYING", 2, x.count(4));
        due("PRESSED", 3, x.cell(2, 0, 4));
        due("the day", 0, x.count(3));
        due("TAXES", 0, x.count(5));
        due("TOOK", 0, x.count(13));
        due("TOLD stays", 1, x.count(11));
        due("the tape stays", 3, x.count(9));
        due("nothing to undo", false, x.undo());
        x.lay(1, 0);
        due("restore again", true, x.restore(0));
        due("LYING again", 2, x.count(4));
        due("restore the other", true, x.restore(2));
        due("the day of the other", 1, x.count(3));
        due("TAXES of the other", 1, x.count(5));
        due("TOOK of the other", 2, x.count(13));
        due("hold over it", true, x.hold(0));
        x.days(4);
        x.restore(0);
        due("the day held over", 1, x.count(3));
        JigsawHole y = Check.of("row a;");
        y.hold(1);
        y.lay(0, 0);
        y.undo();
        due("undo leaves SLOTS", 1, y.count(12));
    }

    private static void count() {
        JigsawHole x = Check.of("row abo; row eoo; spare s 0 0 0 0; spare t 0 0 0 0; spare u 0 0 0 0; wet = 2 - day; knocks 100; falls = 0;");
        x.lay(1, 0);
        x.lay(0, 1);
        x.press(2, 1, 1, 0);
        x.press(0, 2, 0, 0);
        x.days(1);
        x.hold(0);
        x.tell(0, 0);
        Check.feedText(x, "ab");
        int[] want = {3, 2, 3, 1, 4, 2, 1, 1, 3, 2, 5, 1, 1, 0, 5, 18};
        for (int what = 0; what < 16; what++) {
            due("count " + what, want[what], x.count(what));
        }
        for (int odd : new int[] {-1, 16, Integer.MIN_VALUE, Integer.MAX_VALUE}) {
            due("count " + odd, -1, x.count(odd));
        }
        x.days(1);
        due("count not WET", 0, x.count(6));
        due("count KNOCK without KNOCKS", 0, Check.of("row a; knocks 0;").count(7));
    }

    private static int way(String law) {
        return Check.of("row aa; ways = " + law + ";").step(0, 0, 1);
    }

    private static void laws() {
        due("law * before +", 14, way("2 + 3 * 4"));
        due("law from the left", 5, way("10 - 3 - 2"));
        due("law / from the left", 5, way("100 / 10 / 2"));
        due("law / and *", 9, way("10 / 3 * 3"));
        due("law ( )", 20, way("(2 + 3) * 4"));
        due("law / towards 0", 7, way("10 + (0 - 7) / 2"));
        due("law / towards 0 too", 7, way("10 + 7 / (0 - 2)"));
        due("law / 0", 1, way("50 + 1 / 0"));
        due("law / 0 in what is not looked at", 50, way("if 1 < 2 then 50 else 1 / 0"));
        due("law / 0 in what does not hold", 60, way("if 2 < 1 then 1 / 0 else 60"));
        due("law / 0 behind what holds", 70, way("if 1 < 2 then 70 else if 1 / 0 < 2 then 50 else 60"));
        due("law / 0 in what is asked", 1, way("if 1 / 0 < 2 then 50 else 60"));
        due("law / 0 in the second asked", 1, way("if 2 < 1 then 50 else if 1 < 2 / (1 - 1) then 60 else 70"));
        due("law not less if alike", 60, way("if 2 < 2 then 50 else 60"));
        due("law the first that holds", 51, way("if 2 < 1 then 50 else if 1 < 2 then 51 else if 1 < 2 then 52 else 53"));
        due("law the fourth", 54, way("if 2 < 1 then 1 else if 2 < 1 then 2 else if 2 < 1 then 3 else if 1 < 2 then 54 else 5"));
        due("law the last", 55, way("if 2 < 1 then 1 else if 2 < 1 then 2 else if 2 < 1 then 3 else if 2 < 1 then 4 else 55"));
        // 9999 ^ 3 wraps to -1427690497 - .. : by hand in longs
        int cube = 9999 * 9999 * 9999;
        due("law wraps", Math.max(1, Math.min(99, cube / 100000000)), way("9999 * 9999 * 9999 / (100 * 100 * 100 * 100)"));
        // 65536 * 32768 is the least int; the least int by -1 is itself
        due("law least by -1", 42, way("if 256 * 256 * 128 * 256 / (0 - 1) < 0 then 42 else 43"));
        due("law a VAR not told", 7, way("7 + joined + size + parts"));
        due("law the last one", 9, Check.of("row aa; ways = 5; ways = 9;").step(0, 0, 1));
        due("knocks the last one", 0, Check.of("knocks 100; knocks 0;").count(7));
        due("wet / 0 is not WET", 0, Check.of("wet = 1 / 0;").count(6));
        JigsawHole x = Check.of("row a; falls = 100 / (joined - 0);");
        x.lay(0, 0);
        due("falls / 0", 0, x.cell(0, 0, 3));
        JigsawHole y = Check.of("row a; falls = 101;");
        y.lay(0, 0);
        due("falls held to 100", 100, y.cell(0, 0, 3));
        JigsawHole z = Check.of("row a; falls = 0 - 1;");
        z.lay(0, 0);
        due("falls held to 0", 0, z.cell(0, 0, 3));
        String deep = "((((((1 + 2 * (3";
        due("law too deep", 2, Check.read(new JigsawHole(), "ways = " + deep));
        due("law deep", 7, way("0 + 1 * (0 + 1 * (0 + 1 * (0 + 1 * (0 + 1 * (0 + 1 * 7)))))"));
    }
}
