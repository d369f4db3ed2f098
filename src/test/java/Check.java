/** What the tests share: counting answers that are not due, and feeding texts. */
final class Check {
    private final String name;
    private int checks = 0;
    private int wrong = 0;

    Check(String name) {
        this.name = name;
    }

    void due(String what, long want, long got) {
        checks++;
        if (got != want) {
            wrong++;
            if (wrong <= 50) {
                System.out.println(name + ": " + what + " answered " + got + ", due is " + want);
            }
        }
    }

    void due(String what, boolean want, boolean got) {
        due(what, want ? 1 : 0, got ? 1 : 0);
    }

    boolean isGood() {
        return wrong == 0;
    }

    /** Prints what came of it; exit code 1 if something was wrong. */
    void end() {
        System.out.println(name + ": " + checks + " answers, " + wrong + " not as due");
        if (wrong != 0 || checks == 0) {
            System.exit(1);
        }
    }

    /** Brings a text on the tape, by feeds and one back. */
    static void feedText(JigsawHole hole, String text) {
        int[] bytes = new int[text.length()];
        for (int i = 0; i < bytes.length; i++) {
            bytes[i] = text.charAt(i);
        }
        feedBytes(hole, bytes);
    }

    static void feedBytes(JigsawHole hole, int[] bytes) {
        for (int i = 0; i < bytes.length; i += 20) {
            hole.feed(four(bytes, i), four(bytes, i + 4), four(bytes, i + 8), four(bytes, i + 12), four(bytes, i + 16));
        }
        hole.back((20 - bytes.length % 20) % 20);
    }

    private static int four(int[] bytes, int from) {
        int four = 0;
        for (int i = from; i < from + 4; i++) {
            four = four << 8 | (i < bytes.length ? bytes[i] & 255 : 32);
        }
        return four;
    }

    static int read(JigsawHole hole, String text) {
        feedText(hole, text);
        return hole.read();
    }

    /** A new object that has read that text, which has no FAULT. */
    static JigsawHole of(String text) {
        JigsawHole hole = new JigsawHole();
        int fault = read(hole, text);
        if (fault != 0) {
            throw new IllegalStateException("fault " + fault + " at " + hole.place() + " of " + text);
        }
        return hole;
    }

    /** LOT 100, in longs. */
    static int lot(int seed, int which) {
        long h = seed;
        for (int it : new int[] {123, which}) {
            h = (h ^ it) * 1103515245L + 12345 & 0xffffffffL;
            h ^= h >> 15;
        }
        return (int) ((h >> 1) % 100);
    }
}
