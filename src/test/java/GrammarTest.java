import java.io.IOException;
import java.nio.charset.StandardCharsets;
import java.nio.file.Files;
import java.nio.file.Path;
import java.util.ArrayDeque;
import java.util.ArrayList;
import java.util.Deque;
import java.util.HashMap;
import java.util.HashSet;
import java.util.List;
import java.util.Map;
import java.util.Set;
import java.util.regex.Matcher;
import java.util.regex.Pattern;

/** SYNTAX and its place, by the grammar as the document has it: its block is read, and texts are looked up in it by Earley's way. */
public final class GrammarTest {
    private static final Check CHECK = new Check("GrammarTest");
    private static final Path DOCUMENT = Path.of("../shared/DOC.md");
    private static final Pattern NOTATION = Pattern.compile("'([^']+)'|[A-Za-z]+|[{}\\[\\]()|:.]");
    private static final Pattern TOKEN = Pattern.compile("[a-z]+|[0-9]+|[^a-z0-9 ]");

    /** The block of the document, letter by letter. */
    private static final String BLOCK = "text: {TELL}.   "
        + "TELL: 'row' NAME ';' | 'knob' INT INT INT KNOB ';' | 'spare' NAME KNOB KNOB KNOB KNOB ';'"
        + " | ('ways' | 'taxes' | 'wet' | 'falls') LAW ';'"
        + " | 'knocks' INT ';' | 'seed' INT ';'.   "
        + "KNOB: ['-'] INT.   "
        + "LAW: '=' {'if' E '<' E 'then' E 'else'} E.   "
        + "E: PART {('+' | '-') PART}.   "
        + "PART: UNIT {('*' | '/') UNIT}.   "
        + "UNIT: INT | VAR | '(' E ')'.   "
        + "VAR: 'across' | 'down' | 'land' | 'joined' | 'day' | 'same' | 'size' | 'parts' | 'side'.";

    private static final String[] TEXTS = {
        "",
        "row aob ; row cde ; knob 0 0 1 2 ; knob 2 0 3 - 1 ; spare sofa 1 - 2 0 - 3 ; spare cat - 1 0 0 1 ; knocks 20 ; seed 7 ;",
        "ways = 1 + side * 2 - land / 3 ; wet = day ; falls = ( joined ) ; taxes = ( size + 2 ) * ( parts - ( same ) ) ;",
        "taxes = if size < 3 then if5 ; row a ;",
        "wet = if day < 3 + 4 then 1 else if ( day ) < day * 2 then down - 1 else across / ( 5 ) ; row b ;",
    };

    private final Map<String, List<List<String>>> rules = new HashMap<>();
    private final Set<String> words = new HashSet<>();

    /** One alternative of a rule, as far as it has come, and where it began. */
    private record Item(String rule, List<String> parts, int done, int from) {
        String next() {
            return done < parts.size() ? parts.get(done) : null;
        }

        Item on() {
            return new Item(rule, parts, done + 1, from);
        }
    }

    public static void main(String[] args) throws IOException {
        GrammarTest test = new GrammarTest();
        if (Files.isReadable(DOCUMENT)) {
            CHECK.due("the document has this grammar", true, Files.readString(DOCUMENT, StandardCharsets.UTF_8).contains(BLOCK + "\n"));
        }
        test.learn(BLOCK);
        for (String text : TEXTS) {
            test.changed(text);
        }
        CHECK.end();
    }

    private void learn(String block) {
        Deque<String> notation = new ArrayDeque<>();
        Matcher matcher = NOTATION.matcher(block);
        while (matcher.find()) {
            notation.add(matcher.group());
            if (matcher.group(1) != null) {
                words.add(matcher.group(1));
            }
        }
        while (!notation.isEmpty()) {
            String name = notation.poll();
            CHECK.due("a rule is told: " + name, ":", notation.poll());
            rules.put(name, alternatives(notation, "."));
        }
    }

    /** Up to what closes them; braces and brackets become rules of their own. */
    private List<List<String>> alternatives(Deque<String> notation, String close) {
        List<List<String>> all = new ArrayList<>();
        List<String> parts = new ArrayList<>();
        all.add(parts);
        for (String sign = notation.poll(); !sign.equals(close); sign = notation.poll()) {
            switch (sign) {
                case "|" -> {
                    parts = new ArrayList<>();
                    all.add(parts);
                }
                case "{" -> parts.add(own(alternatives(notation, "}"), true, true));
                case "[" -> parts.add(own(alternatives(notation, "]"), true, false));
                case "(" -> parts.add(own(alternatives(notation, ")"), false, false));
                default -> parts.add(sign);
            }
        }
        return all;
    }

    private String own(List<List<String>> all, boolean orNone, boolean again) {
        String name = "own rule " + rules.size();
        rules.put(name, all);
        if (again) {
            all.forEach(parts -> parts.add(0, name));
        }
        if (orNone) {
            all.add(new ArrayList<>());
        }
        return name;
    }

    /** The text itself, cut short, and with each TOKEN left out, put before another one, or in place of it. */
    private void changed(String good) {
        tried(good);
        String[] tokens = good.isEmpty() ? new String[0] : good.split(" ");
        Set<String> others = new HashSet<>(words);
        others.addAll(List.of("x", "sofa", "oo", "0", "12", "99999", "abcdefghi", "?", "Row"));
        for (int i = 0; i <= tokens.length; i++) {
            tried(with(tokens, i, tokens.length, ""));
            if (i < tokens.length) {
                tried(with(tokens, i, i + 1, ""));
            }
            for (String other : others) {
                tried(with(tokens, i, i, other));
                tried(with(tokens, i, Math.min(i + 1, tokens.length), other));
            }
        }
    }

    private static String with(String[] tokens, int from, int to, String other) {
        List<String> all = new ArrayList<>(List.of(tokens).subList(0, from));
        all.add(other);
        all.addAll(List.of(tokens).subList(to, tokens.length));
        return String.join(" ", all);
    }

    private void tried(String text) {
        JigsawHole hole = new JigsawHole();
        int fault = Check.read(hole, text);
        int place = syntaxPlace(text);
        CHECK.due("SYNTAX of '" + text + "'", place >= 0, fault == 1);
        if (place >= 0) {
            CHECK.due("place in '" + text + "'", place, hole.place());
        }
    }

    /** Where the first TOKEN is, or what is none, with which no text goes on; the length if it only ends too soon; else -1. */
    private int syntaxPlace(String text) {
        List<Set<Item>> sets = new ArrayList<>();
        Set<Item> begun = new HashSet<>();
        rules.get("text").forEach(parts -> begun.add(new Item("text", parts, 0, 0)));
        sets.add(begun);
        fill(sets);
        Matcher matcher = TOKEN.matcher(text);
        while (matcher.find()) {
            String kind = kind(matcher.group());
            Set<Item> next = new HashSet<>();
            for (Item item : sets.get(sets.size() - 1)) {
                if (kind.equals(item.next())) {
                    next.add(item.on());
                }
            }
            if (next.isEmpty()) {
                return matcher.start();
            }
            sets.add(next);
            fill(sets);
        }
        boolean whole = sets.get(sets.size() - 1).stream().anyMatch(item -> item.rule.equals("text") && item.next() == null);
        return whole ? -1 : text.length();
    }

    private String kind(String token) {
        if (words.contains(token)) {
            return "'" + token + "'";
        }
        boolean longer = token.length() > (Character.isDigit(token.charAt(0)) ? 4 : 8);
        return longer ? "none" : token.matches("[a-z]+") ? "NAME" : token.matches("[0-9]+") ? "INT" : "none";
    }

    /** All that may begin, and all that has come to its end, where the latest set stands. */
    private void fill(List<Set<Item>> sets) {
        int here = sets.size() - 1;
        Set<Item> set = sets.get(here);
        Deque<Item> open = new ArrayDeque<>(set);
        while (!open.isEmpty()) {
            Item item = open.poll();
            List<Item> more = new ArrayList<>();
            if (item.next() == null) {
                for (Item waiting : sets.get(item.from)) {
                    if (item.rule.equals(waiting.next())) {
                        more.add(waiting.on());
                    }
                }
            } else if (rules.containsKey(item.next())) {
                for (List<String> parts : rules.get(item.next())) {
                    more.add(new Item(item.next(), parts, 0, here));
                }
                // What can be nothing at all may have come to its end here before anything waited for it.
                if (rules.get(item.next()).stream().anyMatch(List::isEmpty)) {
                    more.add(item.on());
                }
            }
            for (Item one : more) {
                if (set.add(one)) {
                    open.add(one);
                }
            }
        }
    }
}
