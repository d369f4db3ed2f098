/** Part II of the document, promises 6 to 14 and 39 to 41: the last that is taken, the first beyond it on either side. */
public final class PlayEdgeTest {
    private static final Check CHECK = new Check("PlayEdgeTest");
    private static final String FULL = "row abcdea;row bcdeab;row cdeabc;row deabcd;row eabcde;";
    private static final String[] VARS = "across down land joined day same size parts side".split(" ");
    private static final int LEAST = Integer.MIN_VALUE;
    private static final int MOST = Integer.MAX_VALUE;

    public static void main(String[] args) {
        newObject();
        noSuchCells();
        cell();
        knob();
        spare();
        land();
        fitOfPieces();
        fitOfSpares();
        varsOfWays();
        varsOfTaxes();
        varsOfWet();
        varsOfFalls();
        eachStep();
        eachFall();
        eachSize();
        heldLaws();
        lessThan();
        wraps();
        divided();
        ifNotTold();
        knocks();
        falls();
        asTheDayBegan();
        taxesAheadOfTheKnock();
        layRefused();
        layNextToEachSide();
        takeRefused();
        pressRefused();
        pressNextToEachSide();
        onDryDays();
        days();
        undoEach();
        undoForty();
        undoLeaves();
        holdAndRestore();
        restoreRefused();
        countNothing();
        countAll();
        countOthers();
        lastCall();
        CHECK.end();
    }

    private static void due(String what, long want, long got) {
        CHECK.due(what, want, got);
    }

    private static void due(String what, boolean want, boolean got) {
        CHECK.due(what, want, got);
    }

    private static void same(String what, String was, JigsawHole hole) {
        CHECK.due(what + " changes nothing", was, Check.state(hole));
    }

    private static int as(boolean answer) {
        return answer ? 1 : 0;
    }

    /** A whole table on which each piece LIES. */
    private static JigsawHole laid(String text) {
        JigsawHole hole = Check.of(text);
        for (int at = 0; at < 30; at++) {
            hole.lay(at % 6, at / 6);
        }
        return hole;
    }

    private static void newObject() {
        JigsawHole hole = new JigsawHole();
        String was = Check.state(hole);
        due("a new place", -1, hole.place());
        for (int n = -1; n <= 1; n++) {
            due("a new cell", -1, hole.cell(n, 0, 0));
            due("a new knob", -100, hole.knob(0, n, 0));
            due("a new spare", -100, hole.spare(n, 0, 0));
            due("a new lay", false, hole.lay(n, 0));
            due("a new take", false, hole.take(0, n));
            due("a new press", false, hole.press(n, 0, 0, 0));
            due("a new clash", -1, hole.clash(0, n));
            due("a new called", -100, hole.called(n, 0, 0));
            due("a new spares", -1, hole.spares(n, 0, 0));
            due("a new homes", -1, hole.homes(n));
            due("a new step", -1, hole.step(n, 0, 0));
            due("a new far", -1, hole.far(n, 0, 0, 0));
            due("a new more", -1, hole.more(n, 0, 0, 0));
            due("a new joined", -1, hole.joined(n, 0));
            due("a new stays", -1, hole.stays(n, 0));
            due("a new year", -1, hole.year(n, 0, 0, 0, 0, 1));
        }
        for (int land = 0; land < 5; land++) {
            for (int what = 0; what < 4; what++) {
                due("a new land", 0, hole.land(land, what));
            }
            due("a new border", land == 0 ? -1 : 0, hole.border(0, land));
        }
        due("a new richest", 0, hole.richest(0) + hole.richest(1));
        due("a new most, free, loose, empire", 0, hole.most() + hole.free() + hole.loose() + hole.empire());
        due("a new liesIn, taxIn", 0, hole.liesIn(60) + hole.taxIn(60));
        due("a new wetter", 0, hole.wetter());
        due("a new missing", 0, hole.missing(0));
        due("a new sure", -2, hole.sure(0));
        due("a new ask", -2, hole.ask(0));
        due("a new missing of more", -1, hole.missing(1));
        due("a new forget", 0, hole.forget());
        due("a new back", 0, hole.back(0));
        for (int slot = 0; slot < 3; slot++) {
            due("a new restore", false, hole.restore(slot));
        }
        due("a new undo", false, hole.undo());
        same("all that is refused", was, hole);
    }

    /** A call with an X and a Y on an object. */
    private interface CellCall {
        int of(JigsawHole hole, int x, int y);
    }

    private static void noSuchCells() {
        for (String text : new String[] {"row a;", "row aab;row bba;", FULL, "row aaaaaa;", "row a;row a;row a;row a;row a;"}) {
            refusedCells("cell", text, -1, (hole, x, y) -> hole.cell(x, y, 0));
            refusedCells("cell 4", text, -1, (hole, x, y) -> hole.cell(x, y, 4));
            refusedCells("knob", text, -100, (hole, x, y) -> hole.knob(x, y, 0));
            refusedCells("lay", text, 0, (hole, x, y) -> as(hole.lay(x, y)));
            refusedCells("take", text, 0, (hole, x, y) -> as(hole.take(x, y)));
            refusedCells("press", text, 0, (hole, x, y) -> as(hole.press(0, x, y, 0)));
        }
    }

    private static void refusedCells(String what, String text, int want, CellCall call) {
        JigsawHole hole = Check.of(text + "spare s 0 0 0 0;");
        int wide = hole.count(0);
        int high = hole.count(1);
        hole.lay(0, 0);
        hole.lay(wide - 1, high - 1);
        String was = Check.state(hole);
        for (int[] odd : Check.besideTable(wide, high)) {
            due(what + " of " + odd[0] + " " + odd[1], want, call.of(hole, odd[0], odd[1]));
        }
        same(what + " of no CELL", was, hole);
    }

    private static void cell() {
        JigsawHole hole = laid("row abcdeo;row oooooo;row edcbao;spare s 0 0 0 0;spare t 0 0 0 0;spare u 0 0 0 0;spare v 0 0 0 0;spare w 0 0 0 0;");
        for (int x = 0; x < 6; x++) {
            due("cell LAND " + x, x < 5 ? x : 9, hole.cell(x, 0, 0));
            due("cell LAND " + x, x < 5 ? 4 - x : 9, hole.cell(x, 2, 0));
            due("cell LAND of a HOLE " + x, 9, hole.cell(x, 1, 0));
            due("cell LIES " + x, x < 5 ? 1 : 0, hole.cell(x, 2, 1));
            due("cell of a HOLE LIES " + x, 0, hole.cell(x, 1, 1));
            due("cell FITS " + x, x == 5 ? 0 : x == 0 || x == 4 ? 1 : 2, hole.cell(x, 0, 2));
            due("cell of a HOLE FITS " + x, 0, hole.cell(x, 1, 2));
            due("cell FALLS " + x, x < 5 ? 50 : 0, hole.cell(x, 0, 3));
            due("cell of a HOLE FALLS " + x, 0, hole.cell(x, 1, 3));
            due("cell PRESSED, a piece or nothing " + x, -2, hole.cell(x, 0, 4));
        }
        for (int spare = 0; spare < 5; spare++) {
            due("press " + spare, true, hole.press(spare, spare, 1, spare % 4));
            due("cell PRESSED " + spare, 10 * spare + spare % 4, hole.cell(spare, 1, 4));
            due("cell of a HOLE still " + spare, 9, hole.cell(spare, 1, 0));
        }
        due("cell FITS four", 4, hole.cell(2, 1, 2));
        due("cell FALLS of what is PRESSED", 50, hole.cell(2, 1, 3));
        due("take", true, hole.take(2, 1));
        due("cell nothing PRESSED then", -2, hole.cell(2, 1, 4));
        due("cell FITS three", 3, hole.cell(1, 1, 2));
        due("take a piece", true, hole.take(0, 0));
        due("cell FITS, not LYING", 0, hole.cell(0, 0, 2));
        due("cell FALLS, not LYING", 0, hole.cell(0, 0, 3));
        due("cell LIES no more", 0, hole.cell(0, 0, 1));
        for (int odd : Check.beyond(5)) {
            due("cell what " + odd, -1, hole.cell(1, 0, odd));
            due("cell of a HOLE what " + odd, -1, hole.cell(1, 1, odd));
        }
    }

    private static void knob() {
        JigsawHole hole = Check.of("row aob;knob 0 0 0 3;knob 0 0 1 - 3;knob 0 0 2 - 1;knob 2 0 3 2;spare s 3 - 3 1 0;");
        int[] left = {3, -3, -1, 0};
        int[] pressed = {-3, 1, 0, 3};
        for (int side = 0; side < 4; side++) {
            due("knob, not LYING " + side, left[side], hole.knob(0, 0, side));
            due("knob of a HOLE " + side, -100, hole.knob(1, 0, side));
            due("knob at the last X " + side, side == 3 ? 2 : 0, hole.knob(2, 0, side));
        }
        due("press", true, hole.press(0, 1, 0, 3));
        for (int side = 0; side < 4; side++) {
            due("knob PRESSED " + side, pressed[side], hole.knob(1, 0, side));
        }
        for (int odd : Check.beyond(4)) {
            due("knob SIDE " + odd, -100, hole.knob(0, 0, odd));
            due("knob PRESSED SIDE " + odd, -100, hole.knob(1, 0, odd));
        }
        due("take", true, hole.take(1, 0));
        due("knob of a HOLE then", -100, hole.knob(1, 0, 0));
    }

    private static void spare() {
        JigsawHole none = Check.of("row a;");
        due("no SPARE", -100, none.spare(0, 0, 0));
        JigsawHole hole = Check.of("spare a 0 0 0 0;spare b 0 0 0 0;spare c 0 0 0 0;spare d 0 0 0 0;spare e - 3 1 2 3;");
        int[][] turned = {{-3, 1, 2, 3}, {3, -3, 1, 2}, {2, 3, -3, 1}, {1, 2, 3, -3}};
        for (int t = 0; t < 4; t++) {
            for (int side = 0; side < 4; side++) {
                due("spare 4 turned " + t + " side " + side, turned[t][side], hole.spare(4, t, side));
                due("spare 0 turned " + t + " side " + side, 0, hole.spare(0, t, side));
            }
        }
        for (int odd : Check.beyond(5)) {
            due("spare " + odd, -100, hole.spare(odd, 0, 0));
        }
        for (int odd : Check.beyond(4)) {
            due("spare turned " + odd, -100, hole.spare(4, odd, 0));
            due("spare side " + odd, -100, hole.spare(4, 0, odd));
        }
    }

    private static void land() {
        JigsawHole none = Check.of("row oo;spare s 0 0 0 0;");
        none.press(0, 0, 0, 0);
        JigsawHole all = laid("row eeeeee;".repeat(5) + "taxes = size * 10 + parts;");
        for (int land = 0; land < 5; land++) {
            for (int what = 0; what < 4; what++) {
                due("land " + land + " of HOLES " + what, 0, none.land(land, what));
                int[] whole = {30, 30, 1, 301};
                due("land " + land + " of 30 " + what, land == 4 ? whole[what] : 0, all.land(land, what));
            }
        }
        for (int odd : Check.beyond(5)) {
            due("land " + odd, -1, all.land(odd, 0));
            due("land " + odd, -1, none.land(odd, 3));
        }
        for (int odd : Check.beyond(4)) {
            due("land what " + odd, -1, all.land(4, odd));
            due("land what " + odd, -1, none.land(0, odd));
        }
        due("land 9 is none", -1, none.land(9, 0));
        JigsawHole chess = laid("row ababab;row bababa;row ababab;row bababa;row ababab;");
        due("land in PARTS", 15, chess.land(0, 2));
        due("land in PARTS", 15, chess.land(1, 2));
        JigsawHole paid = laid("row aa;row ba;taxes = 7;");
        paid.take(0, 0);
        paid.take(1, 0);
        due("land TAXES of one that LIES", 7, paid.land(0, 3));
        paid.take(1, 1);
        due("land TAXES, none LIES", 0, paid.land(0, 3));
        due("land has pieces, none LIES", 3, paid.land(0, 0));
        JigsawHole ring = laid("row aaa;row aba;row aaa;");
        due("land in one PART round another", 1, ring.land(0, 2));
        ring.take(1, 0);
        ring.take(1, 2);
        due("land in two PARTS", 2, ring.land(0, 2));
        JigsawHole over = Check.of("row aoa;spare s 0 0 0 0;");
        over.lay(0, 0);
        over.lay(2, 0);
        over.press(0, 1, 0, 0);
        due("PARTS are not by SPARES", 2, over.land(0, 2));
        due("JOINED is by SPARES", 3, over.joined(0, 0));
    }

    private static String signed(int knob) {
        return knob < 0 ? "- " + -knob : "" + knob;
    }

    private static void fitOfPieces() {
        for (int a = -3; a <= 3; a++) {
            for (int b = -3; b <= 3; b++) {
                boolean fit = a + b == 0;
                JigsawHole row = Check.of("row aa;knob 0 0 1 " + signed(a) + ";knob 1 0 3 " + signed(b) + ";");
                row.lay(0, 0);
                due("clash left " + a + " " + b, fit ? 0 : 8, row.clash(1, 0));
                due("lay right " + a + " " + b, fit, row.lay(1, 0));
                due("FITS " + a + " " + b, fit ? 1 : 0, row.cell(0, 0, 2));
                due("JOINED " + a + " " + b, fit ? 2 : 1, row.joined(0, 0));
                JigsawHole column = Check.of("row a;row a;knob 0 0 2 " + signed(a) + ";knob 0 1 0 " + signed(b) + ";");
                column.lay(0, 1);
                due("clash down " + a + " " + b, fit ? 0 : 4, column.clash(0, 0));
                due("lay up " + a + " " + b, fit, column.lay(0, 0));
                due("FITS down " + a + " " + b, fit ? 1 : 0, column.cell(0, 1, 2));
                due("more " + a + " " + b, fit ? 0 : -2, column.more(0, 0, 0, 1));
                due("most " + a + " " + b, fit ? 2 : 1, column.most());
            }
        }
    }

    private static void fitOfSpares() {
        for (int a = -3; a <= 3; a++) {
            for (int b = -3; b <= 3; b++) {
                boolean fit = a + b == 0;
                JigsawHole one = Check.of("row ao;knob 0 0 1 " + signed(a) + ";spare s 0 0 0 " + signed(b) + ";");
                due("spares " + a + " " + b, fit ? 1 : 0, as(one.spares(0, 0, 0) == -1 && one.spares(1, 0, 1) == 0));
                one.lay(0, 0);
                due("press " + a + " " + b, fit, one.press(0, 1, 0, 0));
                due("press FITS " + a + " " + b, fit ? 1 : 0, one.cell(0, 0, 2));
                JigsawHole two = Check.of("row o;row o;spare s 0 " + signed(a) + " 0 0;spare t " + signed(b) + " 1 1 1;");
                two.press(0, 0, 0, 1);
                due("press below " + a + " " + b, fit, two.press(1, 0, 1, 0));
                due("joined of SPARES " + a + " " + b, fit ? 2 : -2, two.joined(0, 1));
            }
        }
    }

    private static int[] values(int across, int down, int land, int joined, int same, int size, int parts, int side) {
        return new int[] {across, down, land, joined, 5, same, size, parts, side};
    }

    private static void varsOfWays() {
        int[] left = values(2, 1, 4, 0, 0, 0, 0, 3);
        int[] right = values(2, 1, 4, 0, 1, 0, 0, 1);
        int[] up = values(3, 1, 4, 0, 0, 0, 0, 0);
        int[] down = values(1, 0, 9, 0, 0, 0, 0, 2);
        for (int i = 0; i < 9; i++) {
            JigsawHole hole = laid("row aoba;row cdee;ways = 7 + 10 * " + VARS[i] + ";");
            hole.days(5);
            due("WAYS left, " + VARS[i], 7 + 10 * left[i], hole.step(2, 1, 3));
            due("WAYS right, " + VARS[i], 7 + 10 * right[i], hole.step(2, 1, 1));
            due("WAYS up, " + VARS[i], 7 + 10 * up[i], hole.step(3, 1, 0));
            due("WAYS down from a HOLE, " + VARS[i], 7 + 10 * down[i], hole.step(1, 0, 2));
        }
    }

    private static void varsOfTaxes() {
        int[] e = values(0, 0, 4, 0, 0, 3, 2, 0);
        int[] a = values(0, 0, 0, 0, 0, 1, 1, 0);
        for (int i = 0; i < 9; i++) {
            JigsawHole hole = laid("row eabe;row cdce;taxes = 7 + 10 * " + VARS[i] + ";");
            hole.days(5);
            due("TAXES, " + VARS[i], 7 + 10 * e[i], hole.land(4, 3));
            due("TAXES of the first, " + VARS[i], 7 + 10 * a[i], hole.land(0, 3));
        }
    }

    private static void varsOfWet() {
        for (String name : VARS) {
            JigsawHole hole = Check.of("row ab;wet = " + name + ";");
            due("WET day 0, " + name, 0, hole.count(6));
            hole.days(5);
            due("WET day 5, " + name, as(name.equals("day")), hole.count(6));
        }
    }

    private static void varsOfFalls() {
        int[] e = values(2, 1, 4, 3, 0, 0, 0, 0);
        int[] spare = values(1, 0, 9, 3, 0, 0, 0, 0);
        for (int i = 0; i < 9; i++) {
            JigsawHole hole = laid("row aoba;row cdee;spare s 0 0 0 0;falls = 7 + 10 * " + VARS[i] + ";");
            hole.press(0, 1, 0, 0);
            hole.days(5);
            due("FALLS, " + VARS[i], 7 + 10 * e[i], hole.cell(2, 1, 3));
            due("FALLS of a SPARE, " + VARS[i], 7 + 10 * spare[i], hole.cell(1, 0, 3));
        }
    }

    private static final String[] LETTERS = {"aabbcd", "abbocd", "eeooad", "edaooc", "oaabbb"};
    private static final int[] DX = {0, 1, 0, -1};
    private static final int[] DY = {-1, 0, 1, 0};

    private static int landAt(int x, int y) {
        char letter = LETTERS[y].charAt(x);
        return letter == 'o' ? 9 : letter - 'a';
    }

    private static void eachStep() {
        String rows = "row " + String.join(";row ", LETTERS) + ";";
        JigsawHole place = Check.of(rows + "ways = 1 + 10 * across + down;");
        JigsawHole land = Check.of(rows + "ways = 1 + 4 * land + side;");
        JigsawHole same = Check.of(rows + "ways = 2 + same;");
        for (int at = 0; at < 120; at++) {
            int x = at / 4 % 6;
            int y = at / 4 / 6;
            int side = at % 4;
            int toX = x + DX[side];
            int toY = y + DY[side];
            boolean on = toX >= 0 && toX < 6 && toY >= 0 && toY < 5;
            String what = " from " + x + " " + y + " over " + side;
            due("across and down" + what, on ? 1 + 10 * x + y : -1, place.step(x, y, side));
            due("land and side" + what, on ? 1 + 4 * landAt(x, y) + side : -1, land.step(x, y, side));
            // a HOLE is of no LAND
            boolean alike = on && landAt(x, y) != 9 && landAt(x, y) == landAt(toX, toY);
            due("same" + what, on ? 2 + as(alike) : -1, same.step(x, y, side));
        }
    }

    private static void eachFall() {
        String rows = "row " + String.join(";row ", LETTERS) + ";";
        JigsawHole place = laid(rows + "falls = 1 + 10 * across + down;");
        JigsawHole land = laid(rows + "falls = 1 + 5 * land + joined;");
        for (int at = 0; at < 30; at++) {
            int x = at % 6;
            int y = at / 6;
            int joined = 0;
            for (int side = 0; side < 4; side++) {
                int toX = x + DX[side];
                int toY = y + DY[side];
                joined += as(toX >= 0 && toX < 6 && toY >= 0 && toY < 5 && landAt(toX, toY) != 9);
            }
            boolean lies = landAt(x, y) != 9;
            due("cell LAND of " + x + " " + y, landAt(x, y), place.cell(x, y, 0));
            due("across and down of " + x + " " + y, lies ? 1 + 10 * x + y : 0, place.cell(x, y, 3));
            due("land and joined of " + x + " " + y, lies ? 1 + 5 * landAt(x, y) + joined : 0, land.cell(x, y, 3));
            due("FITS of " + x + " " + y, lies ? joined : 0, land.cell(x, y, 2));
        }
    }

    private static void eachSize() {
        for (int wide = 1; wide <= 6; wide++) {
            for (int high = 1; high <= 5; high++) {
                JigsawHole holes = Check.of(("row " + "oooooo".substring(0, wide) + ";").repeat(high) + "spare s 0 0 0 0;");
                due("HOLES of " + wide + " " + high, wide * high, holes.count(8));
                due("HOMES of " + wide + " " + high, wide * high, holes.homes(0));
                due("no pieces of " + wide + " " + high, 0, holes.free());
                due("press in the last one", true, holes.press(0, wide - 1, high - 1, 0));
                JigsawHole pieces = Check.of(("row " + "eeeeee".substring(0, wide) + ";").repeat(high));
                due("X of " + wide + " " + high, wide, pieces.count(0));
                due("ROWS of " + wide + " " + high, high, pieces.count(1));
                due("pieces of " + wide + " " + high, wide * high, pieces.land(4, 0));
                due("FREE of " + wide + " " + high, wide * high, pieces.free());
                due("no HOLES of " + wide + " " + high, 0, pieces.count(8));
                due("lay the last one", true, pieces.lay(wide - 1, high - 1));
                due("more to the last one", wide + high - 2, pieces.more(0, 0, wide - 1, high - 1));
            }
        }
    }

    private static int held(int value, int least, int most) {
        return Math.max(least, Math.min(most, value));
    }

    private static void heldLaws() {
        for (int value : new int[] {-9999, -1, 0, 1, 2, 50, 98, 99, 100, 101, 998, 999, 1000, 1001, 9999}) {
            String law = " = " + (value < 0 ? "0 - " + -value : value) + ";";
            JigsawHole hole = laid("row ab;ways" + law + "taxes" + law + "falls" + law);
            due("WAYS of " + value, held(value, 1, 99), hole.step(0, 0, 1));
            due("FAR of " + value, held(value, 1, 99), hole.far(0, 0, 1, 0));
            due("TAXES of " + value, held(value, 0, 999), hole.land(0, 3));
            due("FALLS of " + value, held(value, 0, 100), hole.cell(0, 0, 3));
            due("TAXES paid of " + value, 2 * held(value, 0, 999), hole.taxIn(1));
            due("richest of " + value, held(value, 0, 999), hole.richest(1));
            JigsawHole wet = Check.of("row a;wet" + law);
            due("WET of " + value, as(value > 0), wet.count(6));
            due("lay, WET of " + value, value > 0, wet.lay(0, 0));
        }
    }

    private static int reckon(String law) {
        return laid("row a;taxes = " + law + ";").land(0, 3);
    }

    private static void lessThan() {
        for (int a = 0; a <= 3; a++) {
            for (int b = 0; b <= 3; b++) {
                due("less " + a + " " + b, a < b ? 7 : 8, reckon("if " + a + " < " + b + " then 7 else 8"));
                due("less of the last " + a + " " + b, a < b ? 7 : 8, reckon("if 1 < 0 then 1 else if 1 < 1 then 2 else if 0 - 1 < 0 - 1 then 3 else if "
                    + a + " < " + b + " then 7 else 8"));
            }
        }
        for (int first = 1; first <= 5; first++) {
            StringBuilder law = new StringBuilder();
            for (int i = 1; i <= 4; i++) {
                law.append("if 5 < ").append(i < first ? 5 : 6).append(" then ").append(i).append(" else ");
            }
            due("the first if that holds", first, reckon(law + "5"));
        }
        due("less below 0", 7, reckon("if 0 - 2 < 0 - 1 then 7 else 8"));
        due("not less below 0", 8, reckon("if 0 - 1 < 0 - 1 then 7 else 8"));
    }

    private static void wraps() {
        String least = "128 * 256 * 256 * 256";
        due("the least int", 7, reckon("if " + least + " < 0 then 7 else 8"));
        due("one less wraps", 8, reckon("if " + least + " - 1 < 0 then 7 else 8"));
        due("the most int", 8, reckon("if " + least + " - 1 < " + least + " then 7 else 8"));
        due("one more wraps", 7, reckon("if (" + least + " - 1) + 1 < 0 then 7 else 8"));
        due("twice the least is 0", 5, reckon("5 + " + least + " * 2"));
        due("the least by -1", 7, reckon("if " + least + " / (0 - 1) < 0 then 7 else 8"));
        due("the least from 0", 7, reckon("if 0 - " + least + " < 0 then 7 else 8"));
        // 999,700,029,999 is 2^32 * 233 - 1,027,349,969
        due("a product wraps", 102, reckon("0 - 9999 * 9999 * 9999 / 9999 / 1000"));
        due("a product that wraps below 0", 7, reckon("if 9999 * 9999 * 9999 < 0 then 7 else 8"));
        due("less of what wraps is no difference", 7, reckon("if " + least + " < 1 then 7 else 8"));
    }

    private static void divided() {
        due("7 / 2", 3, reckon("7 / 2"));
        due("-7 / 2", 97, reckon("100 + (0 - 7) / 2"));
        due("7 / -2", 97, reckon("100 + 7 / (0 - 2)"));
        due("-7 / -2", 103, reckon("100 + (0 - 7) / (0 - 2)"));
        due("1 / 2", 100, reckon("100 + 1 / 2"));
        due("-1 / 2", 100, reckon("100 + (0 - 1) / 2"));
        for (String zero : new String[] {"0", "(1 / 2)", "(3 - 3)", "side", "(land * 9)", "(256 * 256 * 256 * 256)"}) {
            due("/ " + zero, 0, reckon("100 + 5 / " + zero));
            due("0 / " + zero, 0, reckon("100 + 0 / " + zero));
            due("/ " + zero + " ahead of more", 0, reckon("5 / " + zero + " + 100"));
            due("/ " + zero + " within ( )", 0, reckon("100 + 2 * (3 + 5 / " + zero + ")"));
            due("/ " + zero + " where the if is", 0, reckon("if 5 / " + zero + " < 1 then 100 else 200"));
            due("/ " + zero + " behind the <", 0, reckon("if 0 - 1 < 5 / " + zero + " then 100 else 200"));
            due("/ " + zero + " in the second if", 0, reckon("if 1 < 1 then 9 else if 5 / " + zero + " < 1 then 100 else 200"));
            due("/ " + zero + " in the then that holds", 0, reckon("if 0 < 1 then 5 / " + zero + " else 200"));
            due("/ " + zero + " in the last else", 0, reckon("if 1 < 1 then 100 else 5 / " + zero));
            due("/ " + zero + " in a then not looked at", 200, reckon("if 1 < 1 then 5 / " + zero + " else 200"));
            due("/ " + zero + " in an else not looked at", 100, reckon("if 0 < 1 then 100 else 5 / " + zero));
            due("/ " + zero + " in an if not looked at", 100, reckon("if 0 < 1 then 100 else if 5 / " + zero + " < 1 then 3 else 4"));
        }
        JigsawHole hole = laid("row aa;ways = 50 + 1 / 0;falls = 50 + 1 / 0;wet = 1 / day + 1;");
        due("WAYS / 0", 1, hole.step(0, 0, 1));
        due("WET / 0", 0, hole.count(6));
        due("nothing is LAID", 0, hole.count(4));
        hole.days(1);
        due("lay", true, hole.lay(0, 0));
        due("FALLS / 0", 0, hole.cell(0, 0, 3));
        due("WET / 1", 1, hole.count(6));
        JigsawHole taxes = laid("row ab;taxes = 40 / land;");
        due("TAXES / 0 of one LAND", 0, taxes.land(0, 3));
        due("TAXES of the other one", 40, taxes.land(1, 3));
    }

    private static void ifNotTold() {
        JigsawHole hole = laid(FULL);
        for (int side = 0; side < 4; side++) {
            due("WAYS not told", 1, hole.step(2, 2, side));
            due("KNOB not told", 0, hole.knob(2, 2, side));
        }
        for (int land = 0; land < 5; land++) {
            due("TAXES not told", 6, hole.land(land, 3));
        }
        due("FALLS not told", 50, hole.cell(2, 2, 3));
        for (int day = 0; day <= 60; day++) {
            due("WET not told", 1, hole.count(6));
            due("KNOCKS not told", 0, hole.count(7));
            hole.days(1);
        }
        for (int knocks = 0; knocks <= 100; knocks += 10) {
            JigsawHole seed = Check.of("knocks " + knocks + ";");
            for (int day = 0; day < 30; day++) {
                due("SEED not told", as(Check.lot(0, 64 * day) < knocks), seed.count(7));
                seed.days(1);
            }
        }
    }

    private static void knocks() {
        for (int seed : new int[] {0, 1, 2, 122, 123, 124, 5000, 9998, 9999}) {
            for (int day = 0; day <= 60; day += 4) {
                int lot = Check.lot(seed, 64 * day);
                for (int knocks = lot; knocks <= lot + 1; knocks++) {
                    JigsawHole hole = laid("row a;falls = 0;seed " + seed + ";knocks " + knocks + ";");
                    hole.days(day);
                    due("KNOCK on " + day + " by " + seed + " of " + knocks, knocks - lot, hole.count(7));
                }
            }
        }
        for (int day = 0; day <= 60; day++) {
            JigsawHole all = Check.of("knocks 100;");
            JigsawHole none = Check.of("knocks 0;");
            all.days(day);
            none.days(day);
            due("KNOCKS 100 on " + day, 1, all.count(7));
            due("KNOCKS 0 on " + day, 0, none.count(7));
        }
    }

    private static void falls() {
        for (int seed : new int[] {0, 77, 9999}) {
            for (int at = 0; at < 30; at++) {
                int day = at * 2;
                int lot = Check.lot(seed, 64 * day + 1 + at);
                for (int falls = lot; falls <= lot + 1; falls++) {
                    JigsawHole hole = Check.of(FULL + "knocks 100;seed " + seed + ";falls = if day < " + day + " then 0 else " + falls + ";");
                    String what = "FALLS on " + day + " of " + at + ", " + falls;
                    due(what + " lay", true, hole.lay(at % 6, at / 6));
                    due(what + " stays ahead", true, hole.days(day) == day && hole.count(4) == 1);
                    due(what + " liesIn", falls == lot ? 1 : 0, hole.liesIn(1));
                    due(what + " stays", falls > lot, hole.stays(at % 6, at / 6) == 1);
                    hole.days(1);
                    due(what + " LIES", falls == lot ? 1 : 0, hole.cell(at % 6, at / 6, 1));
                    due(what + " TOOK", falls - lot, hole.count(13));
                }
            }
        }
        JigsawHole dry = laid("row a;falls = 100;wet = 1 - day;knocks 100;");
        due("a KNOCK takes on a WET day", 0, dry.liesIn(1));
        dry = laid("row a;falls = if day < 1 then 0 else 100;wet = 1 - day;knocks 100;");
        due("a KNOCK takes on a dry day, not ahead of it", 1, dry.liesIn(1));
        due("a KNOCK takes on a dry day", 0, dry.liesIn(2));
    }

    private static void asTheDayBegan() {
        JigsawHole all = laid("row aaaaaa;row aaaaaa;knocks 100;falls = if joined < 2 then 0 else 100;");
        due("all are TAKEN by how they lay", 0, all.liesIn(1));
        JigsawHole ends = laid("row aaaa;knocks 100;falls = if joined < 2 then 0 else 100;");
        ends.days(1);
        due("the ends stay", 2, ends.count(4));
        due("the first end stays", 1, ends.cell(0, 0, 1));
        due("the last end stays", 1, ends.cell(3, 0, 1));
        ends.days(1);
        due("the ends stay alone", 2, ends.count(4));
        JigsawHole loose = laid("row aaa;knocks 100;falls = if joined < 2 then 100 else 0;");
        loose.days(1);
        due("the ends are TAKEN", 1, loose.count(4));
        loose.days(1);
        due("the middle is TAKEN a day later", 0, loose.count(4));
        due("TOOK", 3, loose.count(13));
    }

    private static void taxesAheadOfTheKnock() {
        JigsawHole hole = laid("row abo;spare s 0 0 0 0;knocks 100;falls = 100;taxes = 10 * size + parts + day;");
        hole.press(0, 2, 0, 2);
        due("TAXES of the day", 22, hole.taxIn(1));
        due("TAXES of two days", 22, hole.taxIn(2));
        due("the day", 1, hole.days(1));
        due("TAXES of the day, paid", 22, hole.count(5));
        due("all is TAKEN", 0, hole.count(4));
        due("TOOK", 3, hole.count(13));
        due("the SPARE is free", 0, hole.count(14));
        due("press it again", true, hole.press(0, 2, 0, 0));
        hole.days(1);
        due("a SPARE pays no TAXES", 22, hole.count(5));
        due("TOOK goes on", 4, hole.count(13));
    }

    private static void layRefused() {
        JigsawHole hole = Check.of("row aabo;knob 0 0 1 1;knob 2 0 3 2;spare s 0 0 0 0;");
        due("lay", true, hole.lay(0, 0));
        String was = Check.state(hole);
        due("lay what LIES", false, hole.lay(0, 0));
        due("lay what does not FIT", false, hole.lay(1, 0));
        due("lay a HOLE", false, hole.lay(3, 0));
        same("a lay that is refused", was, hole);
        due("lay next to none", true, hole.lay(2, 0));
        due("take", true, hole.take(0, 0));
        due("lay does not FIT still", false, hole.lay(1, 0));
        due("take", true, hole.take(2, 0));
        due("lay", true, hole.lay(1, 0));
        due("press", true, hole.press(0, 3, 0, 0));
        was = Check.state(hole);
        due("lay a HOLE in which a SPARE LIES", false, hole.lay(3, 0));
        same("a lay that is refused", was, hole);
        JigsawHole full = laid(FULL);
        due("all LIE", 30, full.count(4));
        due("40 at most can be undone", 30, full.count(10));
        due("lay of the last CELL", false, full.lay(5, 4));
    }

    private static void layNextToEachSide() {
        int[] x = {1, 2, 1, 0};
        int[] y = {0, 1, 2, 1};
        for (int side = 0; side < 4; side++) {
            String text = "row aaa;row aaa;row aaa;knob 1 1 " + side + " 1;";
            JigsawHole hole = Check.of(text);
            for (int at = 0; at < 9; at++) {
                due("all but the middle LIE", at != 4, at != 4 && hole.lay(at % 3, at / 3));
            }
            due("it does not FIT over one SIDE", 1 << side, hole.clash(1, 1));
            due("lay with one that does not FIT", false, hole.lay(1, 1));
            hole.take(x[side], y[side]);
            due("it FITS all", 0, hole.clash(1, 1));
            due("lay with all that FIT", true, hole.lay(1, 1));
            due("lay the other one", false, hole.lay(x[side], y[side]));
            due("it does not FIT, as that one", 1 << (side + 2) % 4, hole.clash(x[side], y[side]));
        }
    }

    private static void takeRefused() {
        JigsawHole hole = Check.of("row aao;spare s 0 0 0 0;");
        hole.lay(0, 0);
        String was = Check.state(hole);
        due("take what does not LIE", false, hole.take(1, 0));
        due("take of an empty HOLE", false, hole.take(2, 0));
        same("a take that is refused", was, hole);
        due("take", true, hole.take(0, 0));
        due("take again", false, hole.take(0, 0));
        hole.press(0, 2, 0, 1);
        due("take a SPARE", true, hole.take(2, 0));
        due("take a SPARE again", false, hole.take(2, 0));
        due("none LIES", 0, hole.count(4));
        due("things done", 4, hole.count(10));
        due("what was TAKEN by hand counts not as TOOK", 0, hole.count(13));
    }

    private static void pressRefused() {
        JigsawHole hole = Check.of("row aoob;row oooo;knob 0 0 1 2;spare s 0 0 0 - 2;spare t 0 0 0 0;spare u 0 0 0 0;spare v 0 0 0 0;spare w 0 0 0 0;");
        hole.lay(0, 0);
        due("press", true, hole.press(1, 2, 1, 2));
        String was = Check.state(hole);
        due("press what is PRESSED there", false, hole.press(1, 2, 1, 2));
        due("press what is PRESSED elsewhere", false, hole.press(1, 3, 1, 0));
        due("press where one LIES", false, hole.press(2, 2, 1, 0));
        due("press what does not FIT", false, hole.press(2, 1, 0, 0));
        due("press what does not FIT so turned", false, hole.press(0, 1, 0, 1));
        due("press on a piece", false, hole.press(2, 3, 0, 0));
        due("press on a piece that LIES", false, hole.press(2, 0, 0, 0));
        for (int odd : Check.beyond(5)) {
            due("press SPARE " + odd, false, hole.press(odd, 3, 1, 0));
        }
        for (int odd : Check.beyond(4)) {
            due("press turned " + odd, false, hole.press(2, 3, 1, odd));
        }
        same("a press that is refused", was, hole);
        due("press SPARE 0 turned 0", true, hole.press(0, 1, 0, 0));
        due("PRESSED 0 turned 0", 0, hole.cell(1, 0, 4));
        due("SPARE 0 is PRESSED", 3, hole.count(14));
        due("press SPARE 4 turned 3", true, hole.press(4, 3, 1, 3));
        due("PRESSED 4 turned 3", 43, hole.cell(3, 1, 4));
        due("SPARE 4 is PRESSED", 19, hole.count(14));
        due("press SPARE 0 again", false, hole.press(0, 0, 1, 0));
        due("take SPARE 0", true, hole.take(1, 0));
        due("press SPARE 0 elsewhere", true, hole.press(0, 0, 1, 0));
        JigsawHole corner = Check.of("row oo;row oo;spare s 0 0 0 0;");
        for (int at = 0; at < 4; at++) {
            due("press in each CELL", true, corner.press(0, at % 2, at / 2, at));
            due("it is PRESSED", 1, corner.count(14));
            due("press it elsewhere", false, corner.press(0, 1 - at % 2, at / 2, at));
            due("take it", true, corner.take(at % 2, at / 2));
            due("it is not PRESSED", 0, corner.count(14));
        }
    }

    private static void pressNextToEachSide() {
        int[] x = {1, 2, 1, 0};
        int[] y = {0, 1, 2, 1};
        for (int side = 0; side < 4; side++) {
            for (int t = 0; t < 4; t++) {
                JigsawHole hole = laid("row aaa;row aoa;row aaa;spare s 1 0 0 0;knob " + x[side] + " " + y[side] + " " + (side + 2) % 4 + " - 1;");
                due("press turned " + t + " to side " + side, t == side, hole.press(0, 1, 1, t));
                due("first SPARE to side " + side, side, hole.spares(1, 1, 1));
            }
        }
    }

    private static void onDryDays() {
        JigsawHole hole = Check.of("row aao;spare s 0 0 0 0;wet = 2 - day;");
        hole.lay(0, 0);
        due("the last WET day", 1, hole.days(1));
        due("lay on it", true, hole.lay(1, 0));
        due("the first dry day", 2, hole.days(1));
        String was = Check.state(hole);
        due("take when dry", false, hole.take(0, 0));
        due("take a SPARE's place when dry", false, hole.take(2, 0));
        due("press when dry", false, hole.press(0, 2, 0, 0));
        same("by hand when dry", was, hole);
        due("tell when dry", 0, hole.tell(0, 0));
        due("hold when dry", true, hole.hold(0));
        due("days when dry", 3, hole.days(1));
        due("undo when dry", true, hole.undo());
        due("restore when dry", true, hole.restore(0));
        JigsawHole lay = Check.of("row a;wet = day;");
        was = Check.state(lay);
        due("lay when dry", false, lay.lay(0, 0));
        same("lay when dry", was, lay);
        lay.days(1);
        due("lay when WET again", true, lay.lay(0, 0));
    }

    private static void days() {
        JigsawHole hole = laid("row ab;taxes = 1 + land;");
        String was = Check.state(hole);
        due("days 0", 0, hole.days(0));
        for (int odd : Check.beyond(61)) {
            due("days " + odd, -1, hole.days(odd));
        }
        same("days that do not go by", was, hole);
        due("days 1", 1, hole.days(1));
        due("days 60", 61, hole.days(60));
        due("days 0 later", 61, hole.days(0));
        due("TAXES of 61 days", 3 * 61, hole.count(5));
        due("things done", 4, hole.count(10));
        JigsawHole apart = laid("row abcabc;row cabcab;knocks 60;seed 12;falls = 10 * joined;taxes = size * day;");
        JigsawHole once = laid("row abcabc;row cabcab;knocks 60;seed 12;falls = 10 * joined;taxes = size * day;");
        for (int i = 0; i < 60; i++) {
            apart.days(1);
        }
        once.days(60);
        due("things done one by one", 40, apart.count(10));
        apart.hold(0);
        apart.restore(0);
        once.hold(0);
        once.restore(0);
        CHECK.due("60 days are as sixty times one", Check.state(apart), Check.state(once));
    }

    private static void undoEach() {
        JigsawHole hole = laid("row aboo;spare s 0 0 0 0;spare t 0 0 0 0;knocks 100;falls = 100;");
        hole.press(1, 3, 0, 2);
        String was = Check.state(hole);
        due("press", true, hole.press(0, 2, 0, 0));
        due("undo press", true, hole.undo());
        same("press undone", was, hole);
        due("take", true, hole.take(3, 0));
        due("undo take", true, hole.undo());
        same("take undone", was, hole);
        due("days", 5, hole.days(5));
        due("TOOK", 3, hole.count(13));
        due("undo days", true, hole.undo());
        same("days undone", was, hole);
        hole.take(0, 0);
        String taken = Check.state(hole);
        due("lay", true, hole.lay(0, 0));
        due("undo lay", true, hole.undo());
        same("lay undone", taken, hole);
        due("undo that take", true, hole.undo());
        same("that take undone", was, hole);
        due("days 0", 0, hole.days(0));
        due("undo what is ahead of days 0", true, hole.undo());
        due("the press is undone", -2, hole.cell(3, 0, 4));
        due("undo", true, hole.undo());
        due("undo", true, hole.undo());
        String none = Check.state(hole);
        due("undo of none", false, hole.undo());
        same("undo of none", none, hole);
    }

    private static void undoForty() {
        JigsawHole hole = Check.of("row a;");
        for (int n = 1; n <= 45; n++) {
            due("days", n, hole.days(1));
            due("things that can be undone", Math.min(n, 40), hole.count(10));
        }
        for (int n = 44; n >= 5; n--) {
            due("undo", true, hole.undo());
            due("the day", n, hole.count(3));
        }
        String was = Check.state(hole);
        due("undo of the 41st", false, hole.undo());
        same("undo of the 41st", was, hole);
        for (int round = 0; round < 3; round++) {
            due("lay", true, hole.lay(0, 0));
            due("take", true, hole.take(0, 0));
            due("days", 65, hole.days(60));
            due("undo days", true, hole.undo());
            due("undo take", true, hole.undo());
            due("undo lay", true, hole.undo());
            due("no more", false, hole.undo());
        }
        same("done and undone", was, hole);
        JigsawHole forty = Check.of("row a;");
        for (int n = 0; n < 40; n++) {
            due("lay or take", true, n % 2 == 0 ? forty.lay(0, 0) : forty.take(0, 0));
            due("refused is no thing done", false, n % 2 == 0 ? forty.lay(0, 0) : forty.take(0, 0));
        }
        for (int n = 40; n > 0; n--) {
            due("40 are there", n, forty.count(10));
            due("undo lay or take", true, forty.undo());
        }
        due("nothing LIES", 0, forty.count(4));
        due("no 41st", false, forty.undo());
    }

    private static void undoLeaves() {
        JigsawHole hole = Check.of("row a;");
        hole.lay(0, 0);
        hole.hold(0);
        hole.days(3);
        hole.hold(1);
        hole.tell(0, 1);
        Check.feedText(hole, "row");
        hole.undo();
        due("SLOTS stay", 2, hole.count(12));
        due("TOLD stays", 1, hole.count(11));
        due("the tape stays", 3, hole.count(9));
        due("undo of lay, not of hold", true, hole.undo());
        due("nothing LIES", 0, hole.count(4));
        due("none left", false, hole.undo());
        due("restore what is held", true, hole.restore(1));
        due("the day held", 3, hole.count(3));
        due("LYING held", 1, hole.count(4));
    }

    private static void holdAndRestore() {
        String text = "row abo;spare s 0 0 0 0;spare t 1 0 0 0;knocks 100;falls = if land < 1 then 100 else 0;taxes = 5;";
        for (int slot = 0; slot < 3; slot++) {
            JigsawHole hole = laid(text);
            hole.days(2);
            hole.press(1, 2, 0, 2);
            String done = Check.state(hole);
            due("hold " + slot, true, hole.hold(slot));
            due("hold is no thing done", 4, hole.count(10));
            due("one SLOT", 1, hole.count(12));
            hole.take(2, 0);
            hole.lay(0, 0);
            hole.days(60);
            hole.tell(3, -3);
            Check.feedText(hole, "seed 1;");
            for (int other = 0; other < 3; other++) {
                due("restore " + other, other == slot, hole.restore(other));
            }
            String want = done.replaceFirst("^(\\S+ \\S+ \\S+ \\S+ \\S+ \\S+ \\S+ \\S+ \\S+) 0 4 0 0 ", "$1 7 0 1 1 ");
            CHECK.due("all that goes on is as held, tape and TOLD are not", want, Check.state(hole));
            due("undo behind restore", false, hole.undo());
            hole.days(1);
            due("undo what is done then", true, hole.undo());
            due("and no more", false, hole.undo());
            hole.take(1, 0);
            due("restore again", true, hole.restore(slot));
            CHECK.due("it stays in the SLOT", want, Check.state(hole));
            hole.days(7);
            due("hold over it", true, hole.hold(slot));
            due("one SLOT still", 1, hole.count(12));
            hole.days(7);
            due("restore the later", true, hole.restore(slot));
            due("the later day", 9, hole.count(3));
        }
        JigsawHole three = Check.of("row a;");
        for (int slot = 0; slot < 3; slot++) {
            three.days(1);
            due("hold", true, three.hold(slot));
            due("SLOTS", slot + 1, three.count(12));
        }
        for (int slot = 2; slot >= 0; slot--) {
            due("restore", true, three.restore(slot));
            due("the day of its own", slot + 1, three.count(3));
        }
        due("SLOTS stay", 3, three.count(12));
    }

    private static void restoreRefused() {
        JigsawHole hole = laid("row ab;");
        String was = Check.state(hole);
        for (int slot = 0; slot < 3; slot++) {
            due("restore of nothing", false, hole.restore(slot));
        }
        for (int odd : Check.beyond(3)) {
            due("hold " + odd, false, hole.hold(odd));
            due("restore " + odd, false, hole.restore(odd));
        }
        same("what no SLOT holds", was, hole);
        for (int slot = 0; slot < 3; slot++) {
            hole.hold(slot);
        }
        was = Check.state(hole);
        for (int odd : Check.beyond(3)) {
            due("hold " + odd, false, hole.hold(odd));
            due("restore " + odd, false, hole.restore(odd));
        }
        same("no such SLOT", was, hole);
        due("undo behind it", true, hole.undo());
    }

    private static void countNothing() {
        JigsawHole hole = new JigsawHole();
        for (int what = 0; what < 16; what++) {
            due("count of nothing " + what, what == 6 ? 1 : 0, hole.count(what));
        }
        JigsawHole empty = Check.of("row o;wet = 0;");
        int[] want = {1, 1, 0, 0, 0, 0, 0, 0, 1, 0, 0, 0, 0, 0, 0, 0};
        for (int what = 0; what < 16; what++) {
            due("count of a HOLE " + what, want[what], empty.count(what));
        }
    }

    private static void countAll() {
        JigsawHole hole = Check.of("row abcdea;row oooooo;row aaaaaa;row aaaaaa;row aaaaaa;falls = 100;knocks 100;"
            + "spare a 0 0 0 0;spare b 0 0 0 0;spare c 0 0 0 0;spare d 0 0 0 0;spare e 0 0 0 0;");
        int[] bits = {1, 3, 7, 15, 31, 31};
        for (int x = 0; x < 6; x++) {
            hole.lay(x, 0);
            due("LANDS that LIE", bits[x], hole.count(15));
            if (x < 5) {
                hole.press(x, x, 1, 0);
                due("SPARES that are PRESSED", bits[x], hole.count(14));
            }
            due("LYING", 2 * x + (x < 5 ? 2 : 1), hole.count(4));
        }
        for (int i = 0; i < 18; i++) {
            hole.lay(i % 6, 2 + i / 6);
        }
        due("LYING at most", 29, hole.count(4));
        due("X", 6, hole.count(0));
        due("ROWS", 5, hole.count(1));
        due("SPARES", 5, hole.count(2));
        due("HOLES", 6, hole.count(8));
        due("things done", 29, hole.count(10));
        for (int i = 0; i < 20; i++) {
            hole.tell(0, 0);
        }
        due("TOLD", 20, hole.count(11));
        hole.take(0, 0);
        due("LAND a LIES still", 31, hole.count(15));
        hole.take(1, 0);
        due("LAND b LIES no more", 29, hole.count(15));
        hole.take(4, 1);
        due("SPARE 4 is not PRESSED", 15, hole.count(14));
        hole.days(1);
        due("TOOK", 26, hole.count(13));
        due("LYING", 0, hole.count(4));
        due("LANDS", 0, hole.count(15));
        due("PRESSED", 0, hole.count(14));
        due("TAXES paid", 22, hole.count(5));
        JigsawHole mixed = Check.of("row eoob;spare s 0 0 0 0;");
        mixed.press(0, 1, 0, 0);
        due("LANDS when a SPARE LIES alone", 0, mixed.count(15));
        mixed.lay(0, 0);
        due("LANDS beside a HOLE", 16, mixed.count(15));
        mixed.lay(3, 0);
        due("LANDS beside HOLES", 18, mixed.count(15));
        mixed.take(1, 0);
        mixed.press(0, 2, 0, 0);
        due("LANDS, the SPARE elsewhere", 18, mixed.count(15));
        JigsawHole full = laid(FULL);
        due("LYING of 30", 30, full.count(4));
        due("HOLES of none", 0, full.count(8));
        due("HOLES of 30", 30, Check.of("row oooooo;".repeat(5)).count(8));
    }

    private static void countOthers() {
        JigsawHole hole = laid(FULL);
        for (int odd : Check.beyond(16)) {
            due("count " + odd, -1, hole.count(odd));
        }
        due("count least", -1, hole.count(LEAST));
        due("count most", -1, hole.count(MOST));
    }

    /** An object is used for 512 calls: the last of them tells still what is due. */
    private static void lastCall() {
        JigsawHole hole = new JigsawHole();
        // "row a;" and blanks, "taxes = 999;" and blanks
        hole.feed(0x726f7720, 0x613b7461, 0x78657320, 0x3d203939, 0x393b2020);
        due("read", 0, hole.read());
        due("lay", true, hole.lay(0, 0));
        for (int call = 4; call <= 508; call++) {
            due("days " + call, 60 * (call - 3), hole.days(60));
        }
        due("TAXES", 999 * 60 * 505, hole.count(5));
        due("taxIn", 999 * 60, hole.taxIn(60));
        due("undo", true, hole.undo());
        due("the 512th", 60 * 504, hole.count(3));
    }
}
