import java.util.Random;

/** Random runs of calls beside the model, with random texts, good and faulty; the same ones each time. */
public final class ModelTest {
    private static final Check CHECK = new Check("ModelTest");
    private static final int RUNS = 900;
    /** What an object tells behind these is free. */
    private static final int MOST_CALLS = 512;
    private static final int CALLS_OF_ALL_CELLS = 270;
    private static final int CALLS_OF_A_TEXT = 103;

    private final Random random;
    private final JigsawHole hole = new JigsawHole();
    private final Model model = new Model();
    private final StringBuilder said = new StringBuilder();
    private int calls = 0;

    private ModelTest(int run) {
        // Alike seeds begin alike, so that they are spread first.
        random = new Random(run * 0x9E3779B97F4A7C15L);
        said.append("run ").append(run);
    }

    public static void main(String[] args) {
        for (int run = 0; run < RUNS && CHECK.isGood(); run++) {
            new ModelTest(run).play();
        }
        CHECK.end();
    }

    private void play() {
        for (int i = 0; i < 3 && model.count(0) == 0; i++) {
            readText();
        }
        while (calls < MOST_CALLS - 20 && CHECK.isGood()) {
            if (random.nextInt(90) == 0 && hasRoomFor(CALLS_OF_A_TEXT)) {
                readText();
            } else {
                call(random.nextInt(60));
            }
        }
        if (!CHECK.isGood()) {
            System.out.println(said);
        }
    }

    private boolean hasRoomFor(int more) {
        return calls + more <= MOST_CALLS;
    }

    private void due(String call, int want, int got) {
        calls++;
        said.append('\n').append(call).append(" -> ").append(want);
        CHECK.due(call, want, got);
    }

    private int below(int n) {
        return random.nextInt(n);
    }

    /** Mostly 0 .. n - 1, at times just beside it, seldom far off. */
    private int about(int n) {
        int kind = random.nextInt(40);
        return kind == 0 ? -1 : kind == 1 ? n : kind == 2 ? Integer.MIN_VALUE : kind == 3 ? Integer.MAX_VALUE : below(n);
    }

    private int x() {
        return about(random.nextBoolean() ? 6 : Math.max(1, model.count(0)));
    }

    private int y() {
        return about(random.nextBoolean() ? 5 : Math.max(1, model.count(1)));
    }

    private void call(int which) {
        int x = x();
        int y = y();
        int toX = x();
        int toY = y();
        int side = about(4);
        int n = random.nextInt(3) == 0 ? about(61) : below(8);
        switch (which) {
            case 0 -> due("cell", model.cell(x, y, side), hole.cell(x, y, side));
            case 1 -> due("knob", model.knob(x, y, side), hole.knob(x, y, side));
            case 2 -> spare();
            case 3 -> land();
            case 4 -> due("take " + x + " " + y, model.take(x, y), hole.take(x, y) ? 1 : 0);
            case 5 -> due("days " + n, model.days(n), hole.days(n));
            case 6, 7 -> due("undo", model.undo(), hole.undo() ? 1 : 0);
            case 8 -> due("clash " + x + " " + y, model.clash(x, y), hole.clash(x, y));
            case 9 -> due("called " + x + " " + y + " " + side, model.called(x, y, side), hole.called(x, y, side));
            case 10 -> due("spares " + x + " " + y, model.spares(x, y, 1), hole.spares(x, y, 1));
            case 11 -> due("spares n " + x + " " + y, model.spares(x, y, 0), hole.spares(x, y, 0));
            case 12 -> due("homes " + side, model.homes(side), hole.homes(side));
            case 13 -> due("free", model.free(), hole.free());
            case 14 -> border();
            case 15 -> due("richest", model.richest(side), hole.richest(side));
            case 16 -> due("step " + x + " " + y + " " + side, model.step(x, y, side), hole.step(x, y, side));
            case 17, 18 -> due("far " + x + " " + y + " " + toX + " " + toY, model.far(x, y, toX, toY), hole.far(x, y, toX, toY));
            case 19, 20 -> due("more " + x + " " + y + " " + toX + " " + toY, model.more(x, y, toX, toY), hole.more(x, y, toX, toY));
            case 21 -> due("most", model.most(), hole.most());
            case 22 -> due("joined " + x + " " + y, model.joined(x, y), hole.joined(x, y));
            case 23 -> due("loose", model.loose(), hole.loose());
            case 24 -> due("empire", model.empire(), hole.empire());
            case 25 -> due("liesIn " + n, model.liesIn(n), hole.liesIn(n));
            case 26 -> due("taxIn " + n, model.taxIn(n), hole.taxIn(n));
            case 27 -> due("stays " + x + " " + y, model.stays(x, y), hole.stays(x, y));
            case 28 -> due("wetter", model.wetter(), hole.wetter());
            case 29 -> year(x, y, toX, toY, n);
            case 30, 31 -> tell();
            case 32 -> due("forget", model.forget(), hole.forget());
            case 33 -> due("missing " + n, model.missing(n), hole.missing(n));
            case 34 -> due("sure " + n, model.sure(n), hole.sure(n));
            case 35 -> due("ask " + n, model.ask(n), hole.ask(n));
            case 36 -> due("hold " + side, model.hold(side), hole.hold(side) ? 1 : 0);
            case 37 -> due("restore " + side, model.restore(side), hole.restore(side) ? 1 : 0);
            case 38, 39, 40 -> count();
            case 41, 42, 43, 44 -> press(x, y, side);
            case 45 -> allCells();
            default -> due("lay " + x + " " + y, model.lay(x, y), hole.lay(x, y) ? 1 : 0);
        }
    }

    private void land() {
        int land = about(5);
        int what = about(4);
        due("land " + land + " " + what, model.land(land, what), hole.land(land, what));
    }

    private void spare() {
        int spare = about(5);
        int t = about(4);
        int side = about(4);
        due("spare " + spare + " " + t + " " + side, model.spare(spare, t, side), hole.spare(spare, t, side));
    }

    private void border() {
        int land = about(5);
        int other = about(5);
        due("border " + land + " " + other, model.border(land, other), hole.border(land, other));
    }

    private void year(int x, int y, int toX, int toY, int n) {
        int s = about(21);
        due("year " + x + " " + y + " " + toX + " " + toY + " " + n + " " + s, model.year(x, y, toX, toY, n, s),
            hole.year(x, y, toX, toY, n, s));
    }

    private void tell() {
        int side = about(4);
        int knob = random.nextInt(3) == 0 ? about(8) - 4 : model.spare(about(5), about(4), 0);
        due("tell " + side + " " + knob, model.tell(side, knob), hole.tell(side, knob));
    }

    private void count() {
        for (int what = -1; what < 17; what++) {
            due("count " + what, model.count(what), hole.count(what));
        }
    }

    private void press(int x, int y, int t) {
        int spare = about(5);
        int first = model.spares(x, y, 1);
        if (first >= 0 && random.nextBoolean()) {
            spare = first / 10;
            t = first % 10;
        }
        due("press " + spare + " " + x + " " + y + " " + t, model.press(spare, x, y, t), hole.press(spare, x, y, t) ? 1 : 0);
    }

    private void allCells() {
        if (!hasRoomFor(CALLS_OF_ALL_CELLS)) {
            return;
        }
        for (int y = 0; y < 5; y++) {
            for (int x = 0; x < 6; x++) {
                for (int what = 0; what < 5; what++) {
                    due("cell " + x + " " + y + " " + what, model.cell(x, y, what), hole.cell(x, y, what));
                }
                for (int side = 0; side < 4; side++) {
                    due("knob " + x + " " + y + " " + side, model.knob(x, y, side), hole.knob(x, y, side));
                }
            }
        }
    }

    private void readText() {
        String text = new TextMaker(random).text();
        said.append('\n').append(text);
        int[] bytes = new int[text.length()];
        for (int i = 0; i < bytes.length; i++) {
            bytes[i] = text.charAt(i);
        }
        for (int i = 0; i < bytes.length; i += 20) {
            int[] fours = new int[5];
            for (int j = 0; j < 20; j++) {
                fours[j / 4] = fours[j / 4] << 8 | (i + j < bytes.length ? bytes[i + j] : below(256));
            }
            due("feed", model.feed(fours), hole.feed(fours[0], fours[1], fours[2], fours[3], fours[4]));
        }
        int over = (20 - bytes.length % 20) % 20;
        due("back " + over, model.back(over), hole.back(over));
        due("read", model.read(), hole.read());
        due("place", model.place(), hole.place());
    }

    /** Makes texts: of the grammar first, then at times with something wrong in them. */
    private static final class TextMaker {
        private static final String[] VARS = "across down land joined day same size parts side".split(" ");
        private final Random random;
        private final StringBuilder text = new StringBuilder();

        // Whether numbers, letters and NAMES are at times other ones than may be told.
        private final boolean wild;

        TextMaker(Random random) {
            this.random = random;
            this.wild = random.nextInt(8) == 0;
        }

        private boolean odd() {
            return wild && random.nextInt(12) == 0;
        }

        String text() {
            boolean room = random.nextInt(8) == 0;
            int wide = 1 + random.nextInt(6);
            int high = 1 + random.nextInt(5);
            int holes = random.nextInt(4);
            for (int y = 0; y < high + (room ? 1 : 0); y++) {
                text.append("row ");
                for (int x = 0; x < wide; x++) {
                    text.append(random.nextInt(10) < holes ? 'o' : (char) ('a' + random.nextInt(3 + random.nextInt(3))));
                }
                text.append(odd() ? "f;" : odd() ? "a;" : ";");
            }
            int most = random.nextInt(4);
            int knobs = most == 0 ? 0 : random.nextInt(room ? 45 : 41);
            for (int i = 0; i < knobs; i++) {
                addKnob(wide, high, most);
            }
            int spares = random.nextInt(room ? 8 : 6);
            for (int i = 0; i < spares; i++) {
                text.append("spare ").append((char) ('a' + (odd() ? 0 : i))).append(i % 2 == 0 ? "" : "x");
                for (int side = 0; side < 4; side++) {
                    addSigned(random.nextInt(4));
                }
                text.append(";");
            }
            addLaws(room);
            return spoilt(text.toString());
        }

        private void addKnob(int wide, int high, int most) {
            int x = random.nextInt(wide);
            int y = random.nextInt(high);
            // HOLES have no KNOBS; the letter stands at this place of the rows ahead (if all are alike long)
            boolean hole = text.charAt(y * (5 + wide) + 4 + x) == 'o';
            if (hole && !odd()) {
                return;
            }
            text.append("knob ").append(odd() ? 6 : x).append(' ').append(odd() ? 5 : y).append(' ').append(odd() ? 4 : random.nextInt(4));
            addSigned(random.nextInt(most + 1));
            text.append(";");
        }

        private void addSigned(int number) {
            text.append(random.nextInt(2) == 0 ? " -" : " ").append(odd() ? 4 + random.nextInt(9000) : number);
        }

        private void addLaws(boolean room) {
            String[] names = {"ways", "taxes", "falls", "wet"};
            for (String name : names) {
                if (random.nextInt(3) > 0) {
                    text.append(name).append("=");
                    int ifs = random.nextInt(room ? 6 : 4);
                    for (int i = 0; i < ifs; i++) {
                        text.append("if ");
                        addSum(0, room);
                        text.append("<");
                        addSum(0, room);
                        text.append(" then ");
                        addSum(0, room);
                        text.append(" else ");
                    }
                    if (name.equals("wet") && random.nextInt(3) > 0) {
                        text.append("3+");
                    }
                    addSum(0, room);
                    text.append(";");
                }
            }
            if (random.nextInt(5) > 0) {
                text.append("knocks ").append(random.nextInt(odd() ? 10000 : 101)).append(";");
            }
            text.append("seed ").append(random.nextInt(10000)).append(";");
        }

        private void addSum(int depth, boolean room) {
            int units = 1 + random.nextInt(3);
            for (int i = 0; i < units; i++) {
                if (i > 0) {
                    text.append("+-*/+-*".charAt(random.nextInt(7)));
                }
                int kind = random.nextInt(10);
                if (kind < 2 && depth < (room ? 7 : 4)) {
                    text.append("(");
                    addSum(depth + 1, room);
                    text.append(")");
                } else if (kind < 6) {
                    text.append(" ").append(VARS[random.nextInt(VARS.length)]).append(" ");
                } else {
                    text.append(random.nextInt(random.nextInt(6) == 0 ? 10000 : 70));
                }
            }
        }

        private String spoilt(String good) {
            StringBuilder spoilt = new StringBuilder(good);
            int faults = random.nextInt(4) == 0 ? 1 + random.nextInt(2) : 0;
            for (int i = 0; i < faults && spoilt.length() > 0; i++) {
                int at = random.nextInt(spoilt.length());
                String odd = "abo;=+-*/<() 0459\t\n";
                switch (random.nextInt(4)) {
                    case 0 -> spoilt.deleteCharAt(at);
                    case 1 -> spoilt.insert(at, odd.charAt(random.nextInt(odd.length())));
                    case 2 -> spoilt.setCharAt(at, (char) random.nextInt(256));
                    default -> spoilt.setLength(at);
                }
            }
            if (spoilt.length() > 1980) {
                spoilt.setLength(1980);
            }
            return spoilt.toString();
        }
    }
}
