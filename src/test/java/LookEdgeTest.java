/** Part III of the document, promises 15 to 33: the last that is taken, the first beyond it on either side. */
public final class LookEdgeTest {
    private static final Check CHECK = new Check("LookEdgeTest");
    private static final String FULL = "row abcdea;row bcdeab;row cdeabc;row deabcd;row eabcde;";
    private static final String CHESS = "row ababab;row bababa;row ababab;row bababa;row ababab;";
    private static final String SPARES = "spare a 0 0 0 0;spare b 0 0 0 0;spare c 0 0 0 0;spare d 0 0 0 0;spare e 0 0 0 0;";
    private static final int[] DX = {0, 1, 0, -1};
    private static final int[] DY = {-1, 0, 1, 0};

    public static void main(String[] args) {
        noSuchCells();
        clash();
        called();
        sparesForAHole();
        sparesBySides();
        homes();
        free();
        border();
        richest();
        step();
        far();
        farByLessWays();
        more();
        moreRoundAbout();
        most();
        joined();
        loose();
        empire();
        inDays();
        stays();
        staysByFalls();
        wetter();
        year();
        yearOfNone();
        lookingChangesNothing();
        CHECK.end();
    }

    private static void due(String what, long want, long got) {
        CHECK.due(what, want, got);
    }

    private static int as(boolean answer) {
        return answer ? 1 : 0;
    }

    private static JigsawHole laid(String text) {
        JigsawHole hole = Check.of(text);
        for (int at = 0; at < 30; at++) {
            hole.lay(at % 6, at / 6);
        }
        return hole;
    }

    /** A call with an X and a Y on an object. */
    private interface CellCall {
        int of(JigsawHole hole, int x, int y);
    }

    /** The first CELL is a piece that LIES, the last one a HOLE. */
    private static void refusedCells(String what, int want, CellCall call) {
        for (String text : new String[] {"row ao;", "row aab;row bbo;", "row a;row o;", FULL.replace("cde;", "cdo;")}) {
            JigsawHole hole = Check.of(text + "spare s 0 0 0 0;");
            hole.lay(0, 0);
            String was = Check.state(hole);
            for (int[] odd : Check.besideTable(hole.count(0), hole.count(1))) {
                due(what + " of " + odd[0] + " " + odd[1], want, call.of(hole, odd[0], odd[1]));
            }
            CHECK.due(what + " changes nothing", was, Check.state(hole));
        }
    }

    private static void noSuchCells() {
        refusedCells("clash", -1, (hole, x, y) -> hole.clash(x, y));
        for (int side = 0; side < 4; side++) {
            int over = side;
            refusedCells("called", -100, (hole, x, y) -> hole.called(x, y, over));
            refusedCells("step", -1, (hole, x, y) -> hole.step(x, y, over));
        }
        refusedCells("spares", -1, (hole, x, y) -> hole.spares(x, y, 0));
        refusedCells("spares, the first", -1, (hole, x, y) -> hole.spares(x, y, 1));
        refusedCells("far from", -1, (hole, x, y) -> hole.far(x, y, 0, 0));
        refusedCells("far to", -1, (hole, x, y) -> hole.far(0, 0, x, y));
        refusedCells("far to itself", -1, (hole, x, y) -> hole.far(x, y, x, y));
        refusedCells("far from what does not LIE", -1, (hole, x, y) -> hole.far(hole.count(0) - 1, hole.count(1) - 1, x, y));
        refusedCells("far to what does not LIE", -1, (hole, x, y) -> hole.far(x, y, hole.count(0) - 1, hole.count(1) - 1));
        refusedCells("more from", -1, (hole, x, y) -> hole.more(x, y, 0, 0));
        refusedCells("more to", -1, (hole, x, y) -> hole.more(0, 0, x, y));
        refusedCells("more to itself", -1, (hole, x, y) -> hole.more(x, y, x, y));
        refusedCells("joined", -1, (hole, x, y) -> hole.joined(x, y));
        refusedCells("stays", -1, (hole, x, y) -> hole.stays(x, y));
        refusedCells("year from", -1, (hole, x, y) -> hole.year(x, y, 0, 0, 1, 1));
        refusedCells("year to", -1, (hole, x, y) -> hole.year(0, 0, x, y, 1, 1));
    }

    private static void clash() {
        JigsawHole hole = Check.of("row aaa;row aao;row aaa;knob 1 1 0 1;knob 1 1 1 - 2;knob 1 1 2 3;knob 1 1 3 - 3;spare s 0 0 0 0;");
        due("clash with none LYING", 0, hole.clash(1, 1));
        due("clash of an empty HOLE", -1, hole.clash(2, 1));
        due("lay it", 1, as(hole.lay(1, 1)));
        due("clash of what LIES, with none", 0, hole.clash(1, 1));
        int[] others = {4, 8, 1, 2};
        for (int side = 0; side < 4; side++) {
            due("clash with it, from " + side, side == 1 ? -1 : others[side], hole.clash(1 + DX[side], 1 + DY[side]));
        }
        due("clash of what is next to none", 0, hole.clash(0, 0));
        hole.take(1, 1);
        int bits = 0;
        for (int side = 0; side < 4; side++) {
            due("lay or press " + side, 1, as(side == 1 ? hole.press(0, 2, 1, 0) : hole.lay(1 + DX[side], 1 + DY[side])));
            bits += 1 << side;
            due("clash with those up to " + side, bits, hole.clash(1, 1));
        }
        due("clash of what is PRESSED", 0, hole.clash(2, 1));
        due("clash of what LIES", 0, hole.clash(1, 0));
        JigsawHole knobs = Check.of("row aob;knob 0 0 1 2;knob 2 0 3 1;spare s 3 - 1 3 - 2;");
        knobs.lay(0, 0);
        due("press", 1, as(knobs.press(0, 1, 0, 0)));
        due("clash of what is PRESSED, by its own KNOBS", 0, knobs.clash(1, 0));
        due("clash with what is PRESSED, by its own KNOBS", 0, knobs.clash(2, 0));
        due("lay next to what is PRESSED", 1, as(knobs.lay(2, 0)));
        due("clash of what is PRESSED between two", 0, knobs.clash(1, 0));
        JigsawHole corners = laid(FULL);
        due("clash at the first corner", 0, corners.clash(0, 0));
        due("clash at the last corner", 0, corners.clash(5, 4));
        JigsawHole edge = Check.of("row ab;row cd;knob 0 0 0 3;knob 0 0 3 3;knob 1 1 1 3;knob 1 1 2 3;");
        for (int at = 0; at < 4; at++) {
            due("KNOBS over the table's edge clash with none", 1, as(edge.lay(at % 2, at / 2)));
        }
    }

    private static void called() {
        for (int knob = -3; knob <= 3; knob++) {
            for (int side = 0; side < 4; side++) {
                JigsawHole hole = Check.of("row aba;row cod;row aea;knob " + (1 + DX[side]) + " " + (1 + DY[side]) + " " + (side + 2) % 4
                    + (knob < 0 ? " - " : " ") + Math.abs(knob) + ";spare s 0 0 0 0;");
                due("called for " + knob + " over " + side, -knob, hole.called(1, 1, side));
                due("called for none told", 0, hole.called(1, 1, (side + 1) % 4));
                due("lay it", 1, as(hole.lay(1 + DX[side], 1 + DY[side])));
                due("called for what LIES", -knob, hole.called(1, 1, side));
                hole.press(0, 1, 1, 0);
                due("called when PRESSED or not", -knob, hole.called(1, 1, side));
                due("called of a piece", -100, hole.called(1 + DX[side], 1 + DY[side], (side + 2) % 4));
            }
        }
        JigsawHole hole = Check.of("row ao;row oo;spare s 0 0 0 0;");
        int[] right = {-100, -100, -100, 0};
        int[] below = {0, -100, -100, -100};
        hole.press(0, 1, 1, 0);
        for (int side = 0; side < 4; side++) {
            due("called of the right corner " + side, right[side], hole.called(1, 0, side));
            due("called of the lower corner " + side, below[side], hole.called(0, 1, side));
            due("called over HOLES, PRESSED " + side, -100, hole.called(1, 1, side));
            due("called of a piece " + side, -100, hole.called(0, 0, side));
        }
        for (int odd : Check.beyond(4)) {
            due("called over SIDE " + odd, -100, hole.called(1, 0, odd));
        }
    }

    private static void sparesForAHole() {
        JigsawHole none = Check.of("row oa;");
        due("spares without SPARES", 0, none.spares(0, 0, 0));
        due("the first without SPARES", -2, none.spares(0, 0, 1));
        due("spares of a piece, NONE ahead of -2", -1, none.spares(1, 0, 1));
        JigsawHole all = Check.of("row oo;row oo;" + SPARES);
        due("spares where all FIT", 20, all.spares(1, 1, 0));
        due("the first where all FIT", 0, all.spares(1, 1, 1));
        for (int i = 0; i < 4; i++) {
            all.press(i, i % 2, i / 2, i);
        }
        due("spares, PRESSED or not", 20, all.spares(1, 1, 0));
        due("the first, PRESSED or not", 0, all.spares(1, 1, 1));
        for (int odd : Check.beyond(2)) {
            due("spares what " + odd, -1, all.spares(0, 0, odd));
        }
        JigsawHole last = Check.of("row oa;knob 1 0 3 2;spare a 0 0 0 0;spare b 2 2 2 2;spare c 1 - 1 3 - 3;spare d 0 0 0 0;spare e 0 0 - 2 0;");
        due("spares by the last alone", 1, last.spares(0, 0, 0));
        due("the first is the last turned thrice", 43, last.spares(0, 0, 1));
        due("homes of the last", 1, last.homes(4));
        due("homes of one that FITS nowhere", 0, last.homes(1));
        JigsawHole tied = Check.of("row oa;knob 1 0 3 2;spare a - 1 0 - 3 0;spare b - 2 0 - 2 0;spare c 0 - 2 0 0;");
        due("spares of alike ones", 3, tied.spares(0, 0, 0));
        due("the first by SPARE, then by turn", 11, tied.spares(0, 0, 1));
    }

    private static void sparesBySides() {
        for (int side = 0; side < 4; side++) {
            String text = "row aaa;row aoa;row aaa;knob " + (1 + DX[side]) + " " + (1 + DY[side]) + " " + (side + 2) % 4 + " 3;";
            JigsawHole hole = Check.of(text + "spare a - 2 0 0 0;spare b - 3 0 0 0;spare c 3 0 0 0;spare d - 3 - 3 0 0;");
            due("spares with one KNOB over " + side, 1, hole.spares(1, 1, 0));
            due("the first over " + side, 10 + side, hole.spares(1, 1, 1));
            due("homes of it", 1, hole.homes(1));
            due("homes of one too many", 0, hole.homes(3));
            hole.lay(1 + DX[side], 1 + DY[side]);
            due("spares, whatever LIES, over " + side, 1, hole.spares(1, 1, 0));
        }
    }

    private static void homes() {
        JigsawHole none = Check.of("row aa;" + SPARES);
        JigsawHole all = Check.of("row oooooo;".repeat(5) + SPARES);
        for (int spare = 0; spare < 5; spare++) {
            due("homes without HOLES", 0, none.homes(spare));
            due("homes of 30 HOLES", 30, all.homes(spare));
            all.press(spare, spare, spare, 0);
            due("homes of 30 HOLES, PRESSED or not", 30, all.homes(spare));
        }
        for (int odd : Check.beyond(5)) {
            due("homes of SPARE " + odd, -1, all.homes(odd));
        }
        for (int odd : Check.beyond(0)) {
            due("homes without SPARES", -1, Check.of("row o;").homes(odd));
        }
        JigsawHole some = Check.of("row oao;row ooo;row oao;knob 1 0 1 1;knob 1 2 3 - 1;spare a 0 0 0 0;spare b 0 1 0 - 1;");
        due("homes of a flat one", 7 - 2, some.homes(0));
        due("homes of a turned one", 7, some.homes(1));
    }

    private static void free() {
        due("free without ROWS", 0, Check.of("").free());
        due("free of HOLES", 0, Check.of("row oooooo;").free());
        JigsawHole hole = Check.of(FULL);
        for (int at = 0; at < 30; at++) {
            due("free of what does not LIE", 30 - at, hole.free());
            hole.lay(at % 6, at / 6);
        }
        due("free of none", 0, hole.free());
        JigsawHole dry = Check.of("row aao;knob 0 0 1 1;wet = 0;");
        due("free, were it WET", 2, dry.free());
        JigsawHole each = Check.of("row aaa;knob 1 0 1 1;knob 1 0 3 1;wet = 1 - day;");
        due("free, each by itself", 3, each.free());
        each.lay(1, 0);
        due("free next to what does not FIT", 0, each.free());
        each.days(1);
        due("free next to it when dry", 0, each.free());
        each.undo();
        each.undo();
        each.lay(0, 0);
        due("free of the first CELL", 1, each.free());
        JigsawHole spare = Check.of("row ao;knob 0 0 1 1;spare s 0 0 0 0;");
        due("free next to an empty HOLE", 1, spare.free());
        spare.press(0, 1, 0, 0);
        due("free next to a SPARE that does not FIT", 0, spare.free());
    }

    private static void border() {
        JigsawHole chess = laid(CHESS);
        due("border of all that are next to each other", 49, chess.border(0, 1));
        due("border the other way round", 49, chess.border(1, 0));
        for (int land = 0; land < 5; land++) {
            due("border of one and the same " + land, -1, chess.border(land, land));
            due("border with one without pieces " + land, land == 4 ? -1 : 0, chess.border(4, land));
            for (int odd : Check.beyond(5)) {
                due("border with " + odd, -1, chess.border(land, odd));
                due("border of " + odd, -1, chess.border(odd, land));
            }
        }
        due("border of 9", -1, chess.border(9, 0));
        due("border of two that are none", -1, chess.border(5, 6));
        JigsawHole none = Check.of(CHESS);
        due("border of what does not LIE", 0, none.border(0, 1));
        none.lay(0, 0);
        due("border with what does not LIE", 0, none.border(0, 1));
        none.lay(1, 0);
        due("border of two", 1, none.border(0, 1));
        JigsawHole holes = Check.of("row aob;row ooo;row aod;spare s 0 0 0 0;");
        for (int at = 0; at < 9; at++) {
            holes.lay(at % 3, at / 3);
        }
        holes.press(0, 1, 0, 0);
        due("border over a SPARE", 0, holes.border(0, 1));
        JigsawHole ends = laid("row eddddd;".repeat(5) + "knob 0 0 1 2;knob 1 0 3 - 2;");
        due("border of the last two LANDS", 5, ends.border(4, 3));
        due("border of the last two LANDS", 5, ends.border(3, 4));
    }

    private static void richest() {
        for (int land = 0; land < 5; land++) {
            JigsawHole hole = laid("row abcde;taxes = if land < " + land + " then 5 else if " + land + " < land then 6 else 7;");
            due("richest " + land, land, hole.richest(0));
            due("richest, how much " + land, 7, hole.richest(1));
            JigsawHole alike = laid("row abcde;taxes = if land < " + land + " then 998 else 1500;");
            due("richest of alike ones " + land, land, alike.richest(0));
            due("richest of those held, how much " + land, 999, alike.richest(1));
            JigsawHole alone = Check.of("row abcde;");
            alone.lay(land, 0);
            due("richest alone " + land, land, alone.richest(0));
            due("richest alone, how much " + land, 1, alone.richest(1));
            JigsawHole poor = Check.of("row abcde;taxes = 0 - 1;");
            poor.lay(land, 0);
            due("richest without TAXES " + land, 0, poor.richest(0));
            due("richest without TAXES, how much " + land, 0, poor.richest(1));
        }
        JigsawHole hole = Check.of("row abcde;taxes = 9;");
        due("richest of none", 0, hole.richest(0));
        due("richest of none, how much", 0, hole.richest(1));
        for (int odd : Check.beyond(2)) {
            due("richest what " + odd, -1, hole.richest(odd));
        }
        JigsawHole later = laid("row ab;taxes = if land < 1 then 5 else day;");
        due("richest now", 0, later.richest(0));
        later.days(5);
        due("richest now, alike", 0, later.richest(0));
        later.days(1);
        due("richest then", 1, later.richest(0));
    }

    private static void step() {
        for (String text : new String[] {"row a;", "row ao;", "row a;row o;", FULL, "row oooooo;".repeat(5)}) {
            JigsawHole hole = Check.of(text);
            int wide = hole.count(0);
            int high = hole.count(1);
            for (int at = 0; at < wide * high; at++) {
                for (int side = 0; side < 4; side++) {
                    int x = at % wide;
                    int y = at / wide;
                    boolean out = side == 0 && y == 0 || side == 1 && x == wide - 1 || side == 2 && y == high - 1 || side == 3 && x == 0;
                    due("step from " + x + " " + y + " over " + side, out ? -1 : 1, hole.step(x, y, side));
                }
            }
            for (int odd : Check.beyond(4)) {
                due("step over SIDE " + odd, -1, hole.step(0, 0, odd));
                due("step over SIDE " + odd, -1, hole.step(wide - 1, high - 1, odd));
            }
        }
    }

    /** Rows 0, 2 and 4 and what links them at their ends, from the first CELL to the last one. */
    private static final String SNAKE = "row aaaaaa;row ooooob;row cccccc;row dooooo;row eeeeee;";

    private static void far() {
        JigsawHole hole = laid(SNAKE + "ways = 99;spare s 0 0 0 0;");
        due("all of the snake LIE", 20, hole.count(4));
        due("far to its end", 19 * 99, hole.far(0, 0, 5, 4));
        due("far back", 19 * 99, hole.far(5, 4, 0, 0));
        due("far to itself", 0, hole.far(0, 0, 0, 0));
        due("far to itself at the end", 0, hole.far(5, 4, 5, 4));
        due("far to an empty HOLE", -2, hole.far(0, 0, 0, 1));
        due("far from an empty HOLE", -2, hole.far(0, 1, 0, 0));
        due("far from an empty HOLE to itself", -2, hole.far(0, 1, 0, 1));
        hole.take(3, 2);
        due("far to what is not JOINED", -2, hole.far(0, 0, 5, 4));
        due("far to what does not LIE", -2, hole.far(0, 0, 3, 2));
        due("far from what does not LIE to itself", -2, hole.far(3, 2, 3, 2));
        due("far to what is JOINED", 8 * 99, hole.far(0, 0, 4, 2));
        hole.press(0, 0, 1, 0);
        due("far over a SPARE", 4 * 99, hole.far(0, 0, 2, 2));
        due("far to a SPARE", 99, hole.far(0, 0, 0, 1));
        due("far from a SPARE to itself", 0, hole.far(0, 1, 0, 1));
        due("far over a SPARE to the end", 9 * 99, hole.far(0, 0, 5, 4));
        JigsawHole two = laid("row aa;ways = if side < 2 then 5 else 7;");
        due("far right", 5, two.far(0, 0, 1, 0));
        due("far left", 7, two.far(1, 0, 0, 0));
        JigsawHole down = laid("row a;row a;ways = if side < 1 then 9 else 4;");
        due("far down", 4, down.far(0, 0, 0, 1));
        due("far up", 9, down.far(0, 1, 0, 0));
    }

    private static void farByLessWays() {
        // straight on is two steps of 50 from CELLS of LAND b, round about four steps of 2 and some
        JigsawHole hole = laid("row aba;row aaa;ways = if land < 1 then 2 else 50;");
        due("far by the least sum, not by the fewest steps", 8, hole.far(0, 0, 2, 0));
        due("far from the dear one", 50, hole.far(1, 0, 2, 0));
        due("far to the dear one", 2, hole.far(0, 0, 1, 0));
        JigsawHole tied = laid("row aba;row aaa;ways = if land < 1 then 2 else 6;");
        due("far of alike sums", 8, tied.far(0, 0, 2, 0));
        JigsawHole day = laid("row aa;ways = day * day;");
        due("far on day 0", 1, day.far(0, 0, 1, 0));
        day.days(7);
        due("far on day 7", 49, day.far(0, 0, 1, 0));
        day.days(3);
        due("far on day 10", 99, day.far(0, 0, 1, 0));
    }

    private static String brokenRows() {
        StringBuilder text = new StringBuilder("row aaaaaa;".repeat(5));
        for (int y = 0; y < 4; y++) {
            for (int x = 0; x < 6; x++) {
                if (x != (y % 2 == 0 ? 5 : 0)) {
                    text.append("knob ").append(x).append(' ').append(y).append(" 2 ").append(1 + x % 3).append(';');
                }
            }
        }
        return text.toString();
    }

    private static void more() {
        JigsawHole hole = Check.of(brokenRows());
        due("more of all 30", 30, hole.more(0, 0, 5, 4));
        due("more back", 30, hole.more(5, 4, 0, 0));
        due("more to itself", 1, hole.more(3, 3, 3, 3));
        due("more to the next", 2, hole.more(0, 0, 1, 0));
        due("more to the one below, round about", 12, hole.more(0, 0, 0, 1));
        int left = 30;
        for (int y = 0; y < 5; y += 2) {
            for (int x = 0; x < 6; x++) {
                due("lay " + x + " " + y, 1, as(hole.lay(x, y)));
                left--;
                due("more with " + (30 - left), left, hole.more(0, 0, 5, 4));
            }
        }
        due("more to itself that LIES", 0, hole.more(2, 2, 2, 2));
        due("more between two that are so", 0, hole.more(0, 0, 5, 0));
        due("more with both to be LAID", 2, hole.more(2, 1, 1, 1));
        due("whether others FIT is not looked at", 1, hole.more(1, 1, 1, 1));
    }

    private static void moreRoundAbout() {
        JigsawHole hole = Check.of("row aaa;row aoa;row aba;spare s 0 0 0 0;");
        due("more of two ways", 5, hole.more(0, 0, 2, 2));
        hole.lay(0, 2);
        hole.lay(1, 2);
        due("more by what LIES", 3, hole.more(0, 0, 2, 2));
        due("more of what is not next to it", 5 - 2, hole.more(1, 0, 1, 2));
        due("more from a HOLE", -1, hole.more(1, 1, 0, 0));
        due("more to a HOLE", -1, hole.more(0, 0, 1, 1));
        hole.press(0, 1, 1, 0);
        due("more to a SPARE", -1, hole.more(0, 0, 1, 1));
        due("more from a SPARE to itself", -1, hole.more(1, 1, 1, 1));
        due("more over a SPARE", 3, hole.more(1, 0, 1, 2));
        JigsawHole apart = Check.of("row aoa;");
        due("more over a HOLE", -2, apart.more(0, 0, 2, 0));
        due("more of one that is apart to itself", 1, apart.more(2, 0, 2, 0));
        JigsawHole dry = Check.of("row aa;wet = 0;");
        due("more when dry", 2, dry.more(0, 0, 1, 0));
        JigsawHole last = Check.of(FULL);
        due("more of a table where all FIT", 10, last.more(0, 0, 5, 4));
        due("more across it", 6, last.more(0, 0, 5, 0));
        due("more down it", 5, last.more(5, 0, 5, 4));
    }

    /** A table on which no two that are next to each other FIT. */
    private static String allClash(int wide, int high) {
        StringBuilder text = new StringBuilder(("row " + "aaaaaa".substring(0, wide) + ";").repeat(high));
        for (int y = 0; y < high; y++) {
            for (int x = 0; x < wide; x++) {
                text.append(x < wide - 1 ? "knob " + x + " " + y + " 1 3;" : "");
                text.append(y < high - 1 ? "knob " + x + " " + y + " 2 - 1;" : "");
            }
        }
        return text.toString();
    }

    private static void most() {
        due("most without ROWS", 0, Check.of("").most());
        due("most of a HOLE", 0, Check.of("row o;").most());
        due("most of HOLES", 0, Check.of("row oooooo;".repeat(5) + SPARES).most());
        due("most of one", 1, Check.of("row a;").most());
        for (int wide = 1; wide <= 6; wide++) {
            for (int high = 1; high <= 5; high++) {
                String rows = ("row " + "abcdea".substring(0, wide) + ";").repeat(high);
                due("most where all FIT", wide * high, Check.of(rows).most());
                if (wide * (high - 1) + high * (wide - 1) <= 40) {
                    due("most where none FIT " + wide + " " + high, (wide * high + 1) / 2, Check.of(allClash(wide, high)).most());
                }
            }
        }
        JigsawHole hole = Check.of(allClash(5, 5));
        for (int at = 0; at < 25; at++) {
            due("none next to another is LAID", at % 2 == 0 ? 1 : 0, as(hole.lay(at % 5, at / 5)));
        }
        due("most, whatever LIES", 13, hole.most());
        due("LYING", 13, hole.count(4));
        due("LOOSE", 13, hole.loose());
        due("free", 0, hole.free());
        JigsawHole spares = Check.of("row aoa;" + SPARES);
        spares.press(0, 1, 0, 0);
        due("most with HOLES empty", 2, spares.most());
        due("most of what is round a HOLE", 8, Check.of("row aaa;row aoa;row aaa;").most());
        due("most of columns apart", 18, Check.of(brokenRows()).most());
        JigsawHole less = Check.of("row aaaaaa;".repeat(5));
        due("a full table ahead", 30, less.most());
        Check.read(less, "row aaa;knob 0 0 1 1;knob 1 0 1 1;");
        due("most of a smaller table then", 2, less.most());
    }

    private static void joined() {
        JigsawHole hole = Check.of(FULL);
        due("joined to what does not LIE", -2, hole.joined(0, 0));
        for (int at = 0; at < 30; at++) {
            hole.lay(at % 6, at / 6);
            due("joined to the first", at + 1, hole.joined(0, 0));
            due("joined to the last", at + 1, hole.joined(at % 6, at / 6));
        }
        JigsawHole snake = laid(SNAKE);
        due("joined from end to end", 20, snake.joined(5, 4));
        due("joined to an empty HOLE", -2, snake.joined(0, 1));
        snake.take(5, 1);
        due("joined of the first row", 6, snake.joined(0, 0));
        due("joined of the others", 13, snake.joined(5, 4));
        due("joined to what was TAKEN", -2, snake.joined(5, 1));
        JigsawHole one = laid("row a;");
        due("joined to itself alone", 1, one.joined(0, 0));
    }

    private static void loose() {
        due("loose of none", 0, Check.of(FULL).loose());
        JigsawHole hole = Check.of("row aao;row oaa;spare s 0 0 0 0;");
        hole.lay(0, 0);
        due("loose of one in the first CELL", 1, hole.loose());
        hole.lay(2, 1);
        due("loose of two", 2, hole.loose());
        hole.press(0, 2, 0, 0);
        due("loose but what a SPARE joins", 1, hole.loose());
        hole.lay(1, 0);
        due("loose of none left", 0, hole.loose());
        hole.take(0, 0);
        hole.take(1, 0);
        hole.take(2, 1);
        due("loose of a SPARE alone", 1, hole.loose());
        JigsawHole many = Check.of(CHESS);
        for (int at = 0; at < 30; at++) {
            if (many.cell(at % 6, at / 6, 0) == 0) {
                many.lay(at % 6, at / 6);
            }
        }
        due("loose of fifteen", 15, many.loose());
        due("loose of none in a full table", 0, laid(FULL).loose());
    }

    private static void empire() {
        due("empire of none", 0, Check.of(FULL).empire());
        due("empire of all", 30, laid(FULL).empire());
        JigsawHole hole = Check.of("row aoaa;");
        hole.lay(0, 0);
        due("empire of one in the first CELL", 1, hole.empire());
        hole.lay(2, 0);
        due("empire of two alike", 1, hole.empire());
        hole.lay(3, 0);
        due("empire of the larger, later one", 2, hole.empire());
        JigsawHole first = laid("row aaoa;");
        due("empire of the larger, first one", 2, first.empire());
        JigsawHole spares = Check.of("row ooo;" + SPARES);
        spares.press(0, 1, 0, 0);
        due("empire of a SPARE", 1, spares.empire());
        spares.press(1, 0, 0, 0);
        spares.press(2, 2, 0, 0);
        due("empire of SPARES", 3, spares.empire());
    }

    private static void inDays() {
        JigsawHole hole = laid(FULL + "knocks 70;seed 31;falls = 3 + joined;taxes = size + day;");
        due("liesIn 0", 30, hole.liesIn(0));
        due("taxIn 0", 0, hole.taxIn(0));
        for (int odd : Check.beyond(61)) {
            due("liesIn " + odd, -1, hole.liesIn(odd));
            due("taxIn " + odd, -1, hole.taxIn(odd));
        }
        for (int n : new int[] {1, 2, 59, 60}) {
            int lie = hole.liesIn(n);
            int tax = hole.taxIn(n);
            int paid = hole.count(5);
            due("days " + n, hole.count(3) + n, hole.days(n));
            due("liesIn " + n + " was", hole.count(4), lie);
            due("taxIn " + n + " was", hole.count(5) - paid, tax);
            hole.undo();
        }
        hole.days(60);
        due("taxIn is more than was paid", 0, hole.taxIn(0));
        JigsawHole all = laid("row a;row b;row c;row d;row e;taxes = 999;");
        due("taxIn 60 of five LANDS", 5 * 999 * 60, all.taxIn(60));
        due("liesIn 60 without KNOCKS", 5, all.liesIn(60));
        JigsawHole none = new JigsawHole();
        due("liesIn of nothing", 0, none.liesIn(60));
        due("taxIn of nothing", 0, none.taxIn(60));
    }

    private static void stays() {
        for (int day : new int[] {0, 1, 2, 59, 60, 61, 198, 199, 200, 201}) {
            JigsawHole hole = laid("row aao;knocks 100;falls = if day < " + day + " then 0 else if across < 1 then 100 else 0;");
            due("stays to day " + day, day < 200 ? day + 1 : -2, hole.stays(0, 0));
            due("stays for good", -2, hole.stays(1, 0));
            due("stays of an empty HOLE", -2, hole.stays(2, 0));
            hole.days(1);
            due("stays a day later", day == 0 ? -2 : day <= 200 ? day : -2, hole.stays(0, 0));
        }
        JigsawHole hole = Check.of("row ao;spare s 0 0 0 0;knocks 100;falls = if day < 3 then 0 else 100;");
        due("stays of what does not LIE", -2, hole.stays(0, 0));
        hole.press(0, 1, 0, 0);
        due("stays of a SPARE", 4, hole.stays(1, 0));
        hole.days(3);
        due("stays of a SPARE to this day", 1, hole.stays(1, 0));
        hole.days(1);
        due("stays of what was TAKEN", -2, hole.stays(1, 0));
        JigsawHole none = laid("row a;knocks 0;falls = 100;");
        due("stays without KNOCKS", -2, none.stays(0, 0));
    }

    private static void staysByFalls() {
        // the first is TAKEN on day 0, the second, then alone, on day 1, when none is next to it
        JigsawHole hole = laid("row aab;knocks 100;falls = if across < 1 then 100 else if joined < 2 - land then 100 else 0;");
        due("stays of the first", 1, hole.stays(0, 0));
        due("stays of the next, by what was TAKEN", 2, hole.stays(1, 0));
        due("stays of the last, by what was TAKEN", 3, hole.stays(2, 0));
        for (int seed = 0; seed < 20; seed++) {
            int want = -2;
            for (int n = 200; n >= 1; n--) {
                boolean taken = Check.lot(seed, 64 * (n - 1)) < 5 && Check.lot(seed, 64 * (n - 1) + 1 + 6 * 4 + 5) < 30;
                want = taken ? n : want;
            }
            JigsawHole last = Check.of(FULL + "knocks 5;falls = 30;seed " + seed + ";");
            last.lay(5, 4);
            due("stays by LOTS of " + seed, want, last.stays(5, 4));
        }
    }

    private static void wetter() {
        due("wetter now", 0, Check.of("wet = 1;").wetter());
        due("wetter never", -2, Check.of("wet = 0;").wetter());
        for (int day : new int[] {1, 2, 60, 199, 200, 201}) {
            JigsawHole hole = Check.of("wet = day + 1 - " + day + ";");
            due("wetter on day " + day, day <= 200 ? day : -2, hole.wetter());
            hole.days(1);
            due("wetter a day later", day - 1, hole.wetter());
        }
        JigsawHole gone = Check.of("wet = 1 - day;");
        due("wetter while WET", 0, gone.wetter());
        gone.days(1);
        due("wetter behind it", -2, gone.wetter());
        due("wetter by a division", 1, Check.of("wet = 5 / day;").wetter());
    }

    private static void year() {
        for (int seed : new int[] {0, 4000, 9980, 9990, 9999}) {
            JigsawHole hole = laid("row a;seed " + seed + ";knocks 50;");
            for (int n : new int[] {0, 1, 2, 3, 5, 8, 60}) {
                for (int s = 1; s <= 20; s++) {
                    int want = 0;
                    for (int of = seed; of < seed + s; of++) {
                        boolean lies = true;
                        for (int day = 0; day < n; day++) {
                            lies &= Check.lot(of, 64 * day) >= 50 || Check.lot(of, 64 * day + 1) >= 50;
                        }
                        want += as(lies);
                    }
                    due("year of " + n + " by " + s + " from " + seed, want, hole.year(0, 0, 0, 0, n, s));
                }
            }
            for (int odd : Check.beyond(61)) {
                due("year n " + odd, -1, hole.year(0, 0, 0, 0, odd, 20));
            }
            due("year s 0", -1, hole.year(0, 0, 0, 0, 0, 0));
            for (int odd : Check.beyond(21)) {
                due("year s " + odd, -1, hole.year(0, 0, 0, 0, 0, odd));
            }
        }
    }

    private static void yearOfNone() {
        JigsawHole hole = Check.of("row aaoo;spare s 0 0 0 0;knocks 100;falls = if across < 2 then 0 else if day < 30 then 0 else 100;");
        due("year of two that do not LIE", 0, hole.year(0, 0, 1, 0, 0, 20));
        due("year of HOLES", 0, hole.year(2, 0, 3, 0, 60, 20));
        hole.lay(0, 0);
        due("year to one that does not LIE", 0, hole.year(0, 0, 1, 0, 0, 20));
        due("year from one that does not LIE", 0, hole.year(1, 0, 0, 0, 60, 20));
        hole.lay(1, 0);
        due("year of two", 20, hole.year(0, 0, 1, 0, 60, 20));
        due("year of one of them", 1, hole.year(1, 0, 0, 0, 60, 1));
        due("year to an empty HOLE", 0, hole.year(0, 0, 2, 0, 0, 20));
        hole.press(0, 2, 0, 0);
        due("year to a SPARE", 20, hole.year(0, 0, 2, 0, 30, 20));
        due("year to a SPARE a day too long", 0, hole.year(0, 0, 2, 0, 31, 20));
        hole.take(1, 0);
        due("year of two that LIE, not JOINED", 0, hole.year(0, 0, 2, 0, 0, 20));
        hole.days(10);
        due("year from the day on, of one", 20, hole.year(2, 0, 2, 0, 20, 20));
        due("year from the day on, of one, a day too long", 0, hole.year(2, 0, 2, 0, 21, 20));
        JigsawHole middle = laid("row aba;knocks 100;falls = if land < 1 then 0 else 100;");
        due("year ahead of what was between", 5, middle.year(0, 0, 2, 0, 0, 5));
        due("year behind what was between", 0, middle.year(0, 0, 2, 0, 1, 5));
    }

    private static void lookingChangesNothing() {
        JigsawHole hole = laid("row abo;row cde;spare s 0 0 0 0;knocks 50;seed 3;taxes = size;");
        hole.hold(1);
        hole.tell(1, 0);
        String was = Check.state(hole);
        for (int n = 0; n < 3; n++) {
            hole.clash(n, 0);
            hole.called(2, 0, n);
            hole.spares(2, 0, n);
            hole.homes(n);
            hole.free();
            hole.border(0, n);
            hole.richest(n);
            hole.step(n, 0, 2);
            hole.far(0, 0, n, 1);
            hole.more(0, 0, n, 1);
            hole.most();
            hole.joined(n, 1);
            hole.loose();
            hole.empire();
            hole.liesIn(30 * n);
            hole.taxIn(30 * n);
            hole.stays(n, 1);
            hole.wetter();
            hole.year(0, 0, n, 1, 30 * n, 20);
            hole.missing(n);
            hole.sure(n);
            hole.ask(n);
            CHECK.due("nothing happens", was, Check.state(hole));
        }
    }
}
