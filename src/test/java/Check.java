import java.util.ArrayList;
import java.util.Arrays;
import java.util.List;

/** What the tests share: counting answers that are not due, and feeding texts. */
final class Check {
    private final String name;
    private int checks = 0;
    private int wrong = 0;

    Check(String name) {
        this.name = name;
    }

    void due(String what, long want, long got) {
        checks++;
        if (got != want) {
            wrong++;
            if (wrong <= 50) {
                System.out.println(name + ": " + what + " answered " + got + ", due is " + want);
            }
        }
    }

    void due(String what, boolean want, boolean got) {
        due(what, want ? 1 : 0, got ? 1 : 0);
    }

    void due(String what, String want, String got) {
        if (!want.equals(got)) {
            System.out.println(name + ": " + what + ": '" + got + "', due is '" + want + "'");
        }
        due(what, true, want.equals(got));
    }

    boolean isGood() {
        return wrong == 0;
    }

    /** Prints what came of it; exit code 1 if something was wrong. */
    void end() {
        System.out.println(name + ": " + checks + " answers, " + wrong + " not as due");
        if (wrong != 0 || checks == 0) {
            System.exit(1);
        }
    }

    /** Brings a text on the tape, by feeds and one back. */
    static void feedText(JigsawHole hole, String text) {
        int[] bytes = new int[text.length()];
        for (int i = 0; i < bytes.length; i++) {
            bytes[i] = text.charAt(i);
        }
        feedBytes(hole, bytes);
    }

    static void feedBytes(JigsawHole hole, int[] bytes) {
        for (int i = 0; i < bytes.length; i += 20) {
            hole.feed(four(bytes, i), four(bytes, i + 4), four(bytes, i + 8), four(bytes, i + 12), four(bytes, i + 16));
        }
        hole.back((20 - bytes.length % 20) % 20);
    }

    private static int four(int[] bytes, int from) {
        int four = 0;
        for (int i = from; i < from + 4; i++) {
            four = four << 8 | (i < bytes.length ? bytes[i] & 255 : 32);
        }
        return four;
    }

    static int read(JigsawHole hole, String text) {
        feedText(hole, text);
        return hole.read();
    }

    /** A new object that has read that text, which has no FAULT. */
    static JigsawHole of(String text) {
        JigsawHole hole = new JigsawHole();
        int fault = read(hole, text);
        if (fault != 0) {
            throw new IllegalStateException("fault " + fault + " at " + hole.place() + " of " + text);
        }
        return hole;
    }

    /** What a call that is refused must leave as it was: all counts, the place, and of each CELL what LIES in it. */
    static String state(JigsawHole hole) {
        StringBuilder all = new StringBuilder();
        for (int what = 0; what < 16; what++) {
            all.append(hole.count(what)).append(' ');
        }
        all.append('@').append(hole.place());
        int wide = hole.count(0);
        int high = hole.count(1);
        for (int at = 0; at < wide * high; at++) {
            all.append(' ').append(hole.cell(at % wide, at / wide, 1)).append(',').append(hole.cell(at % wide, at / wide, 4));
        }
        return all.toString();
    }

    /** Numbers that are none of 0 .. n - 1: the nearest on either side, and far ones that could wrap into it. */
    static int[] beyond(int n) {
        int[] all = {-1, -2, -31, -32, -64, n, n + 1, 31, 32, 64, 128, 256, 65536, Integer.MIN_VALUE, Integer.MAX_VALUE};
        return Arrays.stream(all).filter(one -> one < 0 || one >= n).toArray();
    }

    /** X and Y of no CELL: just beside a table, far off, and those that could be taken for one of the next or last row's. */
    static List<int[]> besideTable(int wide, int high) {
        List<int[]> all = new ArrayList<>();
        for (int odd : beyond(wide)) {
            all.add(new int[] {odd, 0});
            all.add(new int[] {odd, high - 1});
        }
        for (int odd : beyond(high)) {
            all.add(new int[] {0, odd});
            all.add(new int[] {wide - 1, odd});
        }
        all.add(new int[] {wide, high});
        all.add(new int[] {-1, -1});
        all.add(new int[] {-1, 1});
        all.add(new int[] {6, 0});
        all.add(new int[] {6, -1});
        return all;
    }

    /** LOT 100, in longs. */
    static int lot(int seed, int which) {
        long h = seed;
        for (int it : new int[] {123, which}) {
            h = (h ^ it) * 1103515245L + 12345 & 0xffffffffL;
            h ^= h >> 15;
        }
        return (int) ((h >> 1) % 100);
    }
}
