import java.util.ArrayDeque;
import java.util.ArrayList;
import java.util.Arrays;
import java.util.Deque;
import java.util.HashMap;
import java.util.HashSet;
import java.util.List;
import java.util.Map;
import java.util.Set;
import java.util.TreeMap;

/** The document told once more, slowly and in another way, for random runs beside the class. */
final class Model {
    private static final int[] DX = {0, 1, 0, -1};
    private static final int[] DY = {-1, 0, 1, 0};
    private static final List<String> WORDS = Arrays.asList(("row knob spare ways taxes wet falls knocks seed if then else"
        + " across down land joined day same size parts side").split(" "));
    private static final List<String> VARS = WORDS.subList(12, 21);
    private static final List<String> LAWS = WORDS.subList(3, 7);

    /** A thing of a text: what it is and where. */
    private record Token(String kind, String text, int place) {
    }

    private record Fault(int number, int place) {
        boolean isAheadOf(Fault other) {
            return other == null || place < other.place || place == other.place && number < other.number;
        }
    }

    private static final class DividedByZero extends RuntimeException {
        private static final long serialVersionUID = 1;
    }

    /** What lies where: 30 places of null, "piece", or spare and turns. */
    private static final class Lying {
        private final TreeMap<Integer, int[]> things = new TreeMap<>();
        private int day;
        private int paid;
        private int took;

        Lying copy() {
            Lying other = new Lying();
            other.things.putAll(things);
            other.day = day;
            other.paid = paid;
            other.took = took;
            return other;
        }
    }

    private final StringBuilder tape = new StringBuilder();
    private List<String> rows = new ArrayList<>();
    private Map<Integer, Integer> knobs = new HashMap<>();
    private List<int[]> spares = new ArrayList<>();
    private Map<String, List<Token>> laws = new HashMap<>();
    private int knocks = 0;
    private int seed = 0;
    private Lying now = new Lying();
    private final Deque<Lying> done = new ArrayDeque<>();
    private final Lying[] slots = new Lying[3];
    private final List<int[]> told = new ArrayList<>();
    private Fault latest;

    int feed(int... fours) {
        if (tape.length() + 20 > 2000) {
            return -1;
        }
        for (int four : fours) {
            for (int i = 3; i >= 0; i--) {
                tape.append((char) (four >>> 8 * i & 255));
            }
        }
        return tape.length();
    }

    int back(int n) {
        if (n < 0 || n > tape.length()) {
            return -1;
        }
        tape.setLength(tape.length() - n);
        return tape.length();
    }

    int place() {
        return latest == null ? -1 : latest.place;
    }

    int read() {
        String text = tape.toString();
        tape.setLength(0);
        List<Token> tokens = tokens(text);
        Fault syntax = syntax(tokens);
        Fault first = syntax;
        for (Fault fault : rooms(tokens, syntax)) {
            if (fault.isAheadOf(first)) {
                first = fault;
            }
        }
        latest = first;
        if (first == null) {
            Model read = new Model();
            latest = read.load(tokens, text.length());
            if (latest == null) {
                rows = read.rows;
                knobs = read.knobs;
                spares = read.spares;
                laws = read.laws;
                knocks = read.knocks;
                seed = read.seed;
                now = new Lying();
                done.clear();
                Arrays.fill(slots, null);
                told.clear();
            }
        }
        return latest == null ? 0 : latest.number;
    }

    private static List<Token> tokens(String text) {
        List<Token> tokens = new ArrayList<>();
        int at = 0;
        while (at < text.length()) {
            char c = text.charAt(at);
            int end = at + 1;
            String kind = ";=+-*/<()".indexOf(c) >= 0 ? "" + c : "none";
            if (c == 9 || c == 10 || c == 13 || c == 32) {
                at++;
                continue;
            }
            if (c >= 'a' && c <= 'z') {
                while (end < text.length() && text.charAt(end) >= 'a' && text.charAt(end) <= 'z') {
                    end++;
                }
                String word = text.substring(at, end);
                kind = word.length() > 8 ? "none" : WORDS.contains(word) ? word : "name";
            } else if (c >= '0' && c <= '9') {
                while (end < text.length() && text.charAt(end) >= '0' && text.charAt(end) <= '9') {
                    end++;
                }
                kind = end - at > 4 ? "none" : "int";
            }
            tokens.add(new Token(kind, text.substring(at, end), at));
            at = end;
        }
        tokens.add(new Token("end", "", text.length()));
        return tokens;
    }

    /** A machine with a stack of what must come; the grammar as a table of first kinds. */
    private static Fault syntax(List<Token> tokens) {
        Deque<String> due = new ArrayDeque<>();
        due.push("TEXT");
        int at = 0;
        while (true) {
            Token token = tokens.get(at);
            String kind = token.kind;
            String top = due.pop();
            String rule = expand(top, kind);
            if (rule == null) {
                if (!top.equals(kind)) {
                    return new Fault(1, token.place);
                }
                if (kind.equals("end")) {
                    return null;
                }
                at++;
            } else {
                String[] parts = rule.isEmpty() ? new String[0] : rule.split(" ");
                for (int i = parts.length - 1; i >= 0; i--) {
                    due.push(parts[i]);
                }
            }
        }
    }

    private static String expand(String top, String kind) {
        switch (top) {
            case "TEXT":
                return kind.equals("end") ? "end" : "TELL TEXT";
            case "TELL":
                if (LAWS.contains(kind)) {
                    return kind + " = LAW ;";
                }
                switch (kind) {
                    case "row":
                        return "row name ;";
                    case "knob":
                        return "knob int int int KNOB ;";
                    case "spare":
                        return "spare name KNOB KNOB KNOB KNOB ;";
                    case "seed":
                    case "knocks":
                        return kind + " int ;";
                    default:
                        return null;
                }
            case "KNOB":
                return kind.equals("-") ? "- int" : "int";
            case "LAW":
                return kind.equals("if") ? "if E < E then E else LAW" : "E";
            case "E":
                return "PART MOREPARTS";
            case "MOREPARTS":
                return kind.equals("+") || kind.equals("-") ? kind + " PART MOREPARTS" : "";
            case "PART":
                return "UNIT MOREUNITS";
            case "MOREUNITS":
                return kind.equals("*") || kind.equals("/") ? kind + " UNIT MOREUNITS" : "";
            case "UNIT":
                return kind.equals("(") ? "( E )" : VARS.contains(kind) ? kind : "int";
            default:
                return null;
        }
    }

    private static List<Fault> rooms(List<Token> tokens, Fault syntax) {
        List<Fault> faults = new ArrayList<>();
        Map<String, Integer> seen = new HashMap<>();
        int ifs = 0;
        int depth = 0;
        for (int i = 0; i < tokens.size() - 1; i++) {
            Token token = tokens.get(i);
            if (syntax != null && token.place >= syntax.place) {
                break;
            }
            seen.merge(token.kind, 1, Integer::sum);
            if (LAWS.contains(token.kind)) {
                ifs = 0;
            }
            ifs += token.kind.equals("if") ? 1 : 0;
            depth += token.kind.equals("(") ? 1 : token.kind.equals(")") ? -1 : 0;
            boolean full = i == 400
                || token.kind.equals("row") && seen.get("row") == 6
                || token.kind.equals("spare") && seen.get("spare") == 6
                || token.kind.equals("knob") && seen.get("knob") == 41
                || token.kind.equals("if") && ifs == 5
                || token.kind.equals("(") && depth == 7;
            if (full) {
                faults.add(new Fault(2, token.place));
            }
        }
        return faults;
    }

    private Fault load(List<Token> tokens, int length) {
        List<Fault> faults = new ArrayList<>();
        Set<String> names = new HashSet<>();
        int at = 0;
        while (!tokens.get(at).kind.equals("end")) {
            int end = at;
            while (!tokens.get(end).kind.equals(";")) {
                end++;
            }
            List<Token> tell = tokens.subList(at, end);
            String word = tell.get(0).kind;
            if (word.equals("row")) {
                Token name = tell.get(1);
                rows.add(name.text);
                if (name.text.length() != rows.get(0).length() || !name.text.matches("[abcdeo]{1,6}")) {
                    faults.add(new Fault(6, name.place));
                }
            } else if (word.equals("spare")) {
                if (!names.add(tell.get(1).text)) {
                    faults.add(new Fault(3, tell.get(1).place));
                }
                int[] numbers = numbers(tell.subList(2, tell.size()), new int[] {3, 3, 3, 3}, faults);
                spares.add(numbers);
            } else if (word.equals("knob")) {
                int[] numbers = numbers(tell.subList(1, tell.size()), new int[] {5, 4, 3, 3}, faults);
                knobs.put(numbers[1] * 100 + numbers[0] * 10 + numbers[2], numbers[3]);
            } else if (word.equals("knocks")) {
                knocks = numbers(tell.subList(1, 2), new int[] {100}, faults)[0];
            } else if (word.equals("seed")) {
                seed = numbers(tell.subList(1, 2), new int[] {9999}, faults)[0];
            } else {
                laws.put(word, new ArrayList<>(tell.subList(2, tell.size())));
            }
            at = end + 1;
        }
        Fault first = null;
        for (Fault fault : faults) {
            if (fault.isAheadOf(first)) {
                first = fault;
            }
        }
        for (int key : knobs.keySet()) {
            if (first == null && landOf(key / 10 % 10, key / 100) < 0 || first == null && landOf(key / 10 % 10, key / 100) == 9) {
                first = new Fault(6, length);
            }
        }
        return first;
    }

    private static int[] numbers(List<Token> tokens, int[] most, List<Fault> faults) {
        int[] numbers = new int[most.length];
        int n = 0;
        int sign = 1;
        for (Token token : tokens) {
            if (token.kind.equals("-")) {
                sign = -1;
            } else {
                int number = Integer.parseInt(token.text);
                if (number > most[n]) {
                    faults.add(new Fault(5, token.place));
                }
                numbers[n] = sign * number;
                n++;
                sign = 1;
            }
        }
        return numbers;
    }

    /** -1: no CELL. */
    private int landOf(int x, int y) {
        if (y < 0 || y >= rows.size() || x < 0 || x >= rows.get(0).length()) {
            return -1;
        }
        char letter = rows.get(y).charAt(x);
        return letter == 'o' ? 9 : letter - 'a';
    }

    private boolean isCell(int x, int y) {
        return landOf(x, y) >= 0;
    }

    private int ownKnob(int x, int y, int side) {
        return knobs.getOrDefault(y * 100 + x * 10 + side, 0);
    }

    private int turned(int spare, int t, int side) {
        int[] of = spares.get(spare).clone();
        for (int i = 0; i < t; i++) {
            of = new int[] {of[3], of[0], of[1], of[2]};
        }
        return of[side];
    }

    private static int key(int x, int y) {
        return y * 6 + x;
    }

    /** The KNOB of such a thing there: null is the piece. */
    private int knobOf(int[] thing, int x, int y, int side) {
        return thing == null || thing.length == 0 ? ownKnob(x, y, side) : turned(thing[0], thing[1], side);
    }

    private boolean lies(Lying lying, int x, int y) {
        return isCell(x, y) && lying.things.containsKey(key(x, y));
    }

    private int clashesOf(Lying lying, int[] thing, int x, int y) {
        int bits = 0;
        for (int side = 0; side < 4; side++) {
            int nx = x + DX[side];
            int ny = y + DY[side];
            if (lies(lying, nx, ny)
                && knobOf(thing, x, y, side) + knobOf(lying.things.get(key(nx, ny)), nx, ny, (side + 2) % 4) != 0) {
                bits += 1 << side;
            }
        }
        return bits;
    }

    private boolean linked(Lying lying, int x, int y, int side) {
        int nx = x + DX[side];
        int ny = y + DY[side];
        return lies(lying, x, y) && lies(lying, nx, ny)
            && knobOf(lying.things.get(key(x, y)), x, y, side)
            + knobOf(lying.things.get(key(nx, ny)), nx, ny, (side + 2) % 4) == 0;
    }

    private int friends(Lying lying, int x, int y) {
        int n = 0;
        for (int side = 0; side < 4; side++) {
            n += linked(lying, x, y, side) ? 1 : 0;
        }
        return n;
    }

    private void gather(Lying lying, int x, int y, int land, Set<Integer> into) {
        if (!into.add(key(x, y))) {
            return;
        }
        for (int side = 0; side < 4; side++) {
            int nx = x + DX[side];
            int ny = y + DY[side];
            if (linked(lying, x, y, side) && (land < 0 || landOf(nx, ny) == land)) {
                gather(lying, nx, ny, land, into);
            }
        }
    }

    private Set<Integer> group(Lying lying, int x, int y, int land) {
        Set<Integer> into = new HashSet<>();
        gather(lying, x, y, land, into);
        return into;
    }

    private int law(String name, Map<String, Integer> vars) {
        List<Token> law = laws.get(name);
        if (law == null) {
            return name.equals("taxes") ? vars.get("size") : name.equals("falls") ? 50 : 1;
        }
        try {
            return new Reckoner(law, vars).law();
        } catch (DividedByZero zero) {
            return 0;
        }
    }

    private static int held(int value, int least, int most) {
        return value < least ? least : value > most ? most : value;
    }

    private int ways(int day, int x, int y, int side) {
        int land = landOf(x, y);
        boolean same = land != 9 && land == landOf(x + DX[side], y + DY[side]);
        return held(law("ways", Map.of("across", x, "down", y, "land", land, "same", same ? 1 : 0, "side", side, "day", day)), 1, 99);
    }

    private int size(Lying lying, int land) {
        int n = 0;
        for (int key : lying.things.keySet()) {
            n += landOf(key % 6, key / 6) == land ? 1 : 0;
        }
        return n;
    }

    private int parts(Lying lying, int land) {
        Set<Set<Integer>> parts = new HashSet<>();
        for (int key : lying.things.keySet()) {
            if (landOf(key % 6, key / 6) == land) {
                parts.add(group(lying, key % 6, key / 6, land));
            }
        }
        return parts.size();
    }

    private int taxes(Lying lying, int land) {
        int size = size(lying, land);
        return size == 0 ? 0
            : held(law("taxes", Map.of("land", land, "size", size, "parts", parts(lying, land), "day", lying.day)), 0, 999);
    }

    private boolean wet(int day) {
        return law("wet", Map.of("day", day)) > 0;
    }

    private int falls(Lying lying, int x, int y) {
        return held(law("falls", Map.of("across", x, "down", y, "land", landOf(x, y), "joined", friends(lying, x, y),
            "day", lying.day)), 0, 100);
    }

    private Lying tomorrow(Lying lying, int ofSeed) {
        Lying next = lying.copy();
        for (int land = 0; land < 5; land++) {
            next.paid += taxes(lying, land);
        }
        if (Check.lot(ofSeed, 64 * lying.day) < knocks) {
            for (int key : lying.things.keySet()) {
                if (Check.lot(ofSeed, 64 * lying.day + 1 + key) < falls(lying, key % 6, key / 6)) {
                    next.things.remove(key);
                    next.took++;
                }
            }
        }
        next.day++;
        return next;
    }

    private Lying in(int n) {
        Lying lying = now;
        for (int i = 0; i < n; i++) {
            lying = tomorrow(lying, seed);
        }
        return lying;
    }

    private void did(Lying next) {
        done.push(now);
        if (done.size() > 40) {
            done.removeLast();
        }
        now = next;
    }

    int cell(int x, int y, int what) {
        if (!isCell(x, y) || what < 0 || what > 4) {
            return -1;
        }
        int[] thing = now.things.get(key(x, y));
        switch (what) {
            case 0:
                return landOf(x, y);
            case 1:
                return thing == null ? 0 : 1;
            case 2:
                return friends(now, x, y);
            case 3:
                return thing == null ? 0 : falls(now, x, y);
            default:
                return thing == null || thing.length == 0 ? -2 : 10 * thing[0] + thing[1];
        }
    }

    int knob(int x, int y, int side) {
        if (!isCell(x, y) || side < 0 || side > 3 || landOf(x, y) == 9 && !lies(now, x, y)) {
            return -100;
        }
        return knobOf(now.things.get(key(x, y)), x, y, side);
    }

    int spare(int spare, int t, int side) {
        return spare < 0 || spare >= spares.size() || t < 0 || t > 3 || side < 0 || side > 3 ? -100 : turned(spare, t, side);
    }

    int land(int land, int what) {
        if (land < 0 || land > 4 || what < 0 || what > 3) {
            return -1;
        }
        if (what == 0) {
            return (int) String.join("", rows).chars().filter(c -> c == 'a' + land).count();
        }
        return what == 1 ? size(now, land) : what == 2 ? parts(now, land) : taxes(now, land);
    }

    int lay(int x, int y) {
        if (!canLay(x, y) || !wet(now.day)) {
            return 0;
        }
        Lying next = now.copy();
        next.things.put(key(x, y), new int[0]);
        did(next);
        return 1;
    }

    private boolean canLay(int x, int y) {
        return isCell(x, y) && landOf(x, y) != 9 && !lies(now, x, y) && clashesOf(now, null, x, y) == 0;
    }

    int take(int x, int y) {
        if (!lies(now, x, y) || !wet(now.day)) {
            return 0;
        }
        Lying next = now.copy();
        next.things.remove(key(x, y));
        did(next);
        return 1;
    }

    private int pressed() {
        int bits = 0;
        for (int[] thing : now.things.values()) {
            bits |= thing.length == 0 ? 0 : 1 << thing[0];
        }
        return bits;
    }

    int press(int spare, int x, int y, int t) {
        if (!wet(now.day) || landOf(x, y) != 9 || lies(now, x, y) || spare < 0 || spare >= spares.size() || t < 0 || t > 3
            || (pressed() >> spare & 1) == 1 || clashesOf(now, new int[] {spare, t}, x, y) != 0) {
            return 0;
        }
        Lying next = now.copy();
        next.things.put(key(x, y), new int[] {spare, t});
        did(next);
        return 1;
    }

    int days(int n) {
        if (n < 0 || n > 60) {
            return -1;
        }
        if (n > 0) {
            did(in(n));
        }
        return now.day;
    }

    int undo() {
        if (done.isEmpty()) {
            return 0;
        }
        now = done.pop();
        return 1;
    }

    int clash(int x, int y) {
        if (!isCell(x, y) || landOf(x, y) == 9 && !lies(now, x, y)) {
            return -1;
        }
        return clashesOf(now, now.things.get(key(x, y)), x, y);
    }

    int called(int x, int y, int side) {
        if (landOf(x, y) != 9 || side < 0 || side > 3) {
            return -100;
        }
        int land = landOf(x + DX[side], y + DY[side]);
        return land < 0 || land == 9 ? -100 : -ownKnob(x + DX[side], y + DY[side], (side + 2) % 4);
    }

    private List<Integer> fitting(int x, int y) {
        List<Integer> all = new ArrayList<>();
        for (int i = 0; i < 4 * spares.size(); i++) {
            boolean fits = true;
            for (int side = 0; side < 4; side++) {
                int called = called(x, y, side);
                fits &= called == -100 || called == turned(i / 4, i % 4, side);
            }
            if (fits) {
                all.add(i / 4 * 10 + i % 4);
            }
        }
        return all;
    }

    int spares(int x, int y, int what) {
        if (landOf(x, y) != 9 || what < 0 || what > 1) {
            return -1;
        }
        List<Integer> all = fitting(x, y);
        return what == 0 ? all.size() : all.isEmpty() ? -2 : all.get(0);
    }

    int homes(int spare) {
        if (spare < 0 || spare >= spares.size()) {
            return -1;
        }
        int n = 0;
        for (int y = 0; y < 5; y++) {
            for (int x = 0; x < 6; x++) {
                n += landOf(x, y) == 9 && fitting(x, y).stream().anyMatch(one -> one / 10 == spare) ? 1 : 0;
            }
        }
        return n;
    }

    int free() {
        int n = 0;
        for (int key = 0; key < 30; key++) {
            n += canLay(key % 6, key / 6) ? 1 : 0;
        }
        return n;
    }

    int border(int land, int other) {
        if (land < 0 || land > 4 || other < 0 || other > 4 || land == other) {
            return -1;
        }
        int n = 0;
        for (int y = 0; y < 5; y++) {
            for (int x = 0; x < 6; x++) {
                for (int side = 1; side < 3; side++) {
                    if (linked(now, x, y, side)) {
                        int a = landOf(x, y);
                        int b = landOf(x + DX[side], y + DY[side]);
                        n += a == land && b == other || a == other && b == land ? 1 : 0;
                    }
                }
            }
        }
        return n;
    }

    int richest(int what) {
        int best = 0;
        for (int land = 1; land < 5; land++) {
            best = taxes(now, land) > taxes(now, best) ? land : best;
        }
        return what < 0 || what > 1 ? -1 : what == 0 ? best : taxes(now, best);
    }

    int step(int x, int y, int side) {
        if (!isCell(x, y) || side < 0 || side > 3 || !isCell(x + DX[side], y + DY[side])) {
            return -1;
        }
        return ways(now.day, x, y, side);
    }

    int far(int x, int y, int toX, int toY) {
        if (!isCell(x, y) || !isCell(toX, toY)) {
            return -1;
        }
        if (!lies(now, x, y) || !lies(now, toX, toY)) {
            return -2;
        }
        Map<Integer, Integer> sums = new HashMap<>();
        sums.put(key(x, y), 0);
        boolean changed = true;
        while (changed) {
            changed = false;
            for (int key : new ArrayList<>(sums.keySet())) {
                for (int side = 0; side < 4; side++) {
                    if (linked(now, key % 6, key / 6, side)) {
                        int next = key(key % 6 + DX[side], key / 6 + DY[side]);
                        int sum = sums.get(key) + ways(now.day, key % 6, key / 6, side);
                        if (sums.getOrDefault(next, Integer.MAX_VALUE) > sum) {
                            sums.put(next, sum);
                            changed = true;
                        }
                    }
                }
            }
        }
        return sums.getOrDefault(key(toX, toY), -2);
    }

    int more(int x, int y, int toX, int toY) {
        if (landOf(x, y) < 0 || landOf(x, y) == 9 || landOf(toX, toY) < 0 || landOf(toX, toY) == 9) {
            return -1;
        }
        Map<Integer, Integer> sums = new HashMap<>();
        sums.put(key(x, y), lies(now, x, y) ? 0 : 1);
        boolean changed = true;
        while (changed) {
            changed = false;
            for (int key : new ArrayList<>(sums.keySet())) {
                for (int side = 0; side < 4; side++) {
                    int nx = key % 6 + DX[side];
                    int ny = key / 6 + DY[side];
                    if (isCell(nx, ny) && landOf(nx, ny) != 9
                        && ownKnob(key % 6, key / 6, side) + ownKnob(nx, ny, (side + 2) % 4) == 0) {
                        int sum = sums.get(key) + (lies(now, nx, ny) ? 0 : 1);
                        if (sums.getOrDefault(key(nx, ny), Integer.MAX_VALUE) > sum) {
                            sums.put(key(nx, ny), sum);
                            changed = true;
                        }
                    }
                }
            }
        }
        return sums.getOrDefault(key(toX, toY), -2);
    }

    int most() {
        return mostFrom(0, new boolean[30], new HashMap<>());
    }

    /** Piece by piece, each with and without; the last six CELLS are all that later ones can meet. */
    private int mostFrom(int at, boolean[] in, Map<String, Integer> known) {
        if (at == 30) {
            return 0;
        }
        StringBuilder name = new StringBuilder().append(at).append(':');
        for (int i = Math.max(0, at - 6); i < at; i++) {
            name.append(in[i] ? '1' : '0');
        }
        Integer told = known.get(name.toString());
        if (told != null) {
            return told;
        }
        int x = at % 6;
        int y = at / 6;
        in[at] = false;
        int best = mostFrom(at + 1, in, known);
        boolean can = isCell(x, y) && landOf(x, y) != 9;
        if (can && x > 0 && in[at - 1]) {
            can = ownKnob(x - 1, y, 1) + ownKnob(x, y, 3) == 0;
        }
        if (can && y > 0 && in[at - 6]) {
            can = ownKnob(x, y - 1, 2) + ownKnob(x, y, 0) == 0;
        }
        if (can) {
            in[at] = true;
            best = Math.max(best, 1 + mostFrom(at + 1, in, known));
            in[at] = false;
        }
        known.put(name.toString(), best);
        return best;
    }

    int joined(int x, int y) {
        return !isCell(x, y) ? -1 : !lies(now, x, y) ? -2 : group(now, x, y, -1).size();
    }

    int loose() {
        int n = 0;
        for (int key : now.things.keySet()) {
            n += group(now, key % 6, key / 6, -1).size() == 1 ? 1 : 0;
        }
        return n;
    }

    int empire() {
        int n = 0;
        for (int key : now.things.keySet()) {
            n = Math.max(n, group(now, key % 6, key / 6, -1).size());
        }
        return n;
    }

    int liesIn(int n) {
        return n < 0 || n > 60 ? -1 : in(n).things.size();
    }

    int taxIn(int n) {
        return n < 0 || n > 60 ? -1 : in(n).paid - now.paid;
    }

    int stays(int x, int y) {
        if (!isCell(x, y)) {
            return -1;
        }
        Lying lying = now;
        for (int n = 1; n <= 200 && lies(now, x, y); n++) {
            lying = tomorrow(lying, seed);
            if (!lies(lying, x, y)) {
                return n;
            }
        }
        return -2;
    }

    int wetter() {
        int n = 0;
        while (n <= 200 && !wet(now.day + n)) {
            n++;
        }
        return n > 200 ? -2 : n;
    }

    int year(int x, int y, int toX, int toY, int n, int s) {
        if (!isCell(x, y) || !isCell(toX, toY) || n < 0 || n > 60 || s < 1 || s > 20) {
            return -1;
        }
        int found = 0;
        for (int i = 0; i < s; i++) {
            Lying lying = now;
            for (int day = 0; day < n; day++) {
                lying = tomorrow(lying, seed + i);
            }
            found += lies(lying, x, y) && group(lying, x, y, -1).contains(key(toX, toY)) ? 1 : 0;
        }
        return found;
    }

    int tell(int side, int knob) {
        if (side < 0 || side > 3 || knob < -3 || knob > 3 || told.size() == 20) {
            return -1;
        }
        told.add(new int[] {side, knob});
        return told.size() - 1;
    }

    int forget() {
        int n = told.size();
        told.clear();
        return n;
    }

    private List<int[]> left(int k) {
        List<int[]> all = new ArrayList<>();
        for (int i = 0; i < 4 * spares.size(); i++) {
            all.add(new int[] {i / 4, i % 4});
        }
        for (int[] clue : told.subList(0, k)) {
            all.removeIf(one -> turned(one[0], one[1], clue[0]) != clue[1]);
        }
        return all;
    }

    int missing(int k) {
        return k < 0 || k > told.size() ? -1 : left(k).size();
    }

    int sure(int k) {
        if (k < 0 || k > told.size()) {
            return -1;
        }
        Set<Integer> which = new HashSet<>();
        for (int[] one : left(k)) {
            which.add(one[0]);
        }
        return which.size() == 1 ? which.iterator().next() : -2;
    }

    int ask(int k) {
        if (k < 0 || k > told.size()) {
            return -1;
        }
        int best = -2;
        int bestWorst = Integer.MAX_VALUE;
        for (int side = 0; side < 4 && !left(k).isEmpty(); side++) {
            Map<Integer, Integer> by = new HashMap<>();
            for (int[] one : left(k)) {
                by.merge(turned(one[0], one[1], side), 1, Integer::sum);
            }
            int worst = by.values().stream().mapToInt(n -> n).max().getAsInt();
            if (worst < bestWorst) {
                best = side;
                bestWorst = worst;
            }
        }
        return best;
    }

    int hold(int slot) {
        if (slot < 0 || slot > 2) {
            return 0;
        }
        slots[slot] = now;
        return 1;
    }

    int restore(int slot) {
        if (slot < 0 || slot > 2 || slots[slot] == null) {
            return 0;
        }
        now = slots[slot];
        done.clear();
        return 1;
    }

    int count(int what) {
        int lands = 0;
        for (int land = 0; land < 5; land++) {
            lands |= size(now, land) > 0 ? 1 << land : 0;
        }
        int held = 0;
        for (Lying slot : slots) {
            held += slot == null ? 0 : 1;
        }
        int[] answers = {
            rows.isEmpty() ? 0 : rows.get(0).length(), rows.size(), spares.size(), now.day, now.things.size(), now.paid,
            wet(now.day) ? 1 : 0, Check.lot(seed, 64 * now.day) < knocks ? 1 : 0,
            (int) String.join("", rows).chars().filter(c -> c == 'o').count(), tape.length(), done.size(), told.size(),
            held, now.took, pressed(), lands,
        };
        return what < 0 || what >= answers.length ? -1 : answers[what];
    }

    /** A LAW by going through its TOKENS; what is not looked at is stepped over. */
    private static final class Reckoner {
        private final List<Token> law;
        private final Map<String, Integer> vars;
        private int at = 0;
        private boolean looking = true;

        Reckoner(List<Token> law, Map<String, Integer> vars) {
            this.law = law;
            this.vars = vars;
        }

        private String kind() {
            return at < law.size() ? law.get(at).kind : ";";
        }

        int law() {
            while (kind().equals("if")) {
                at++;
                int left = sum();
                at++;
                int right = sum();
                at++;
                looking = left < right;
                int then = sum();
                if (looking) {
                    return then;
                }
                looking = true;
                at++;
            }
            return sum();
        }

        private int sum() {
            int value = product();
            while (kind().equals("+") || kind().equals("-")) {
                boolean plus = kind().equals("+");
                at++;
                int right = product();
                value = plus ? value + right : value - right;
            }
            return value;
        }

        private int product() {
            int value = unit();
            while (kind().equals("*") || kind().equals("/")) {
                boolean times = kind().equals("*");
                at++;
                int right = unit();
                if (!times && right == 0 && looking) {
                    throw new DividedByZero();
                }
                value = times ? value * right : right == 0 ? 0 : (int) ((long) value / right);
            }
            return value;
        }

        private int unit() {
            Token token = law.get(at);
            at++;
            if (token.kind.equals("(")) {
                int value = sum();
                at++;
                return value;
            }
            return token.kind.equals("int") ? Integer.parseInt(token.text) : vars.getOrDefault(token.kind, 0);
        }
    }
}
