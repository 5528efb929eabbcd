import java.io.IOException;
import java.lang.reflect.InvocationTargetException;
import java.lang.reflect.Method;
import java.lang.reflect.Modifier;
import java.nio.charset.StandardCharsets;
import java.nio.file.Files;
import java.nio.file.Path;
import java.util.ArrayList;
import java.util.IdentityHashMap;
import java.util.LinkedHashMap;
import java.util.List;
import java.util.Map;
import java.util.function.Supplier;

/**
 * Which sentence of the document is being tried. It is quoted as it stands in DOC.md, under its promise or under
 * "Terms"; a quote that doesn't stand there, one without a test, and words of the document that no quote has are told
 * as faults, too.
 */
final class Sentences {
    static final int NONE = -1;
    static final int BAD = -2;
    static final int OTHER = -3;
    static final int NOTHING = -4;
    static final int STUCK = -5;
    static final int FULL = -6;
    static final int[] FAR = {Integer.MIN_VALUE, Integer.MAX_VALUE};

    private static final int MOST_CALLS = 512;
    private static final Map<String, Method> FACE = new LinkedHashMap<>();

    static {
        for (Method m : WhoOpensOne.class.getDeclaredMethods()) {
            if (Modifier.isPublic(m.getModifiers())) {
                FACE.put(m.getName(), m);
            }
        }
    }

    private final Map<String, String> sections = new LinkedHashMap<>();
    private final Map<String, boolean[]> quoted = new LinkedHashMap<>();
    private final Map<WhoOpensOne, int[]> calls = new IdentityHashMap<>();
    private String sentence = "";
    private int answersHere = 1;
    private int quotes = 0;
    private int answers = 0;
    private int wrong = 0;

    Sentences(Path document) throws IOException {
        String section = "";
        for (String line : Files.readString(document).split("\n")) {
            if (line.startsWith("## ")) {
                section = line.substring(3).replaceAll(":.*", "");
                sections.put(section, "");
            } else if (!line.startsWith("```") && !line.startsWith("====") && !line.equals("THE HOUSE")) {
                sections.merge(section, line, (a, b) -> a + " " + b);
            }
        }
        sections.replaceAll((name, text) -> text.replaceAll("\\s+", " ").trim().replaceFirst("^`[^`]*`: ", ""));
        sections.forEach((name, text) -> quoted.put(name, new boolean[text.length()]));
    }

    void terms(String quote) {
        begin("Terms", quote);
    }

    void promise(int number, String quote) {
        begin("Promise " + number, quote);
    }

    void begin(String section, String quote) {
        if (answersHere == 0) {
            fault(sentence + " has no test");
        }
        sentence = section + ", \"" + quote + "\"";
        answersHere = 0;
        quotes++;
        int place = sections.getOrDefault(section, "").indexOf(quote);
        if (place < 0) {
            fault(sentence + " doesn't stand in the document");
            return;
        }
        for (int i = place; i < place + quote.length(); i++) {
            quoted.get(section)[i] = true;
        }
    }

    private void fault(String text) {
        wrong++;
        System.out.println(text);
    }

    /** Tells what of the terms and promises no quote has; answers whether all is well. */
    boolean end() {
        begin("Terms", "");
        sections.forEach((name, text) -> {
            StringBuilder left = new StringBuilder();
            for (int i = 0; i < text.length(); i++) {
                left.append(quoted.get(name)[i] ? '\n' : text.charAt(i));
            }
            for (String stretch : left.toString().split("\n+")) {
                if ((name.equals("Terms") || name.startsWith("Promise ")) && stretch.matches(".*[a-zA-Z0-9].*")) {
                    fault(name + " has no test for: " + stretch);
                }
            }
        });
        System.out.println(wrong == 0 ? quotes - 1 + " quotes, " + answers + " answers: every sentence holds" : wrong + " faults");
        return wrong == 0;
    }

    void same(String what, Object got, Object want) {
        answersHere++;
        answers++;
        if (!got.equals(want)) {
            fault(sentence + ": " + what + " answered " + got + ", due is " + want);
        }
    }

    /** The call of that name on x answers what is due. */
    void due(WhoOpensOne x, long want, String name, long... args) {
        same(textOf(name, args), call(x, name, args), want);
    }

    /** The tape, read as this text, gives that answer. */
    void reads(WhoOpensOne x, long want, String text) {
        feed(x, text);
        same("house() of '" + text + "'", call(x, "house"), want);
    }

    /** The text without its sign ^ is no HOUSE, and the FAULT is where ^ stands; nothing comes of it. */
    void faulty(Supplier<WhoOpensOne> maker, String marked) {
        WhoOpensOne with = maker.get();
        WhoOpensOne without = maker.get();
        call(with, "wipe");
        call(without, "wipe");
        reads(with, -20 - marked.indexOf('^'), marked.replace("^", ""));
        sameBut(with, without, BAD, "house() of '" + marked + "'");
    }

    /** A refused call: beside its answer nothing can be seen of it but one more refusal of that number. */
    void refuses(Supplier<WhoOpensOne> maker, long want, String name, long... args) {
        WhoOpensOne with = maker.get();
        WhoOpensOne without = maker.get();
        due(with, want, name, args);
        sameBut(with, without, want < -1000000 ? (int) (want + 1000000) : (int) want, textOf(name, args));
    }

    private void sameBut(WhoOpensOne with, WhoOpensOne without, int number, String what) {
        for (int n = BAD; n >= FULL; n--) {
            long due = call(without, "status", 10 - n) + (n == number ? 1 : 0);
            same("after " + what + " status(" + (10 - n) + ")", call(with, "status", 10 - n), due);
        }
        same("after " + what + " all else", look(with), look(without));
    }

    /** All that can be seen of an object but its refusals; the tape is read for that, and what was kept comes back. */
    List<Long> look(WhoOpensOne x) {
        List<Long> seen = new ArrayList<>();
        for (int s = 0; s < 8; s++) {
            long held = call(x, "holds", s);
            seen.add(held);
            for (int i = 0; i < 40 && held >= 0 && held <= 4; i += i < 5 ? 1 : 17) {
                seen.add(call(x, "element", s, i));
            }
        }
        lookAround(x, seen);
        seen.add(call(x, "status", 6));
        seen.add(call(x, "house"));
        lookAround(x, seen);
        seen.add(call(x, "back"));
        lookAround(x, seen);
        return seen;
    }

    private void lookAround(WhoOpensOne x, List<Long> seen) {
        for (int what : new int[] {0, 1, 2, 3, 4, 5, 7, 8}) {
            seen.add(call(x, "status", what));
        }
        for (long d = call(x, "status", 0) - 1; d >= 0; d--) {
            seen.add(call(x, "doorOf", d, 0) * 64 + call(x, "doorOf", d, 1) * 8 + call(x, "doorOf", d, 2));
        }
        seen.add(call(x, "doors", 0, 0));
        for (long p = call(x, "status", 2) - 1; p >= 0; p--) {
            seen.add(call(x, "where", p));
        }
    }

    long call(WhoOpensOne x, String name, long... args) {
        int[] count = calls.computeIfAbsent(x, k -> new int[1]);
        if (++count[0] == MOST_CALLS + 1) {
            fault(sentence + ": the test itself calls an object too often");
        }
        Method m = FACE.get(name);
        Object[] given = new Object[args.length];
        for (int i = 0; i < args.length; i++) {
            Class<?> type = m.getParameterTypes()[i];
            if (type == boolean.class) {
                given[i] = args[i] != 0;
            } else if (type == long.class) {
                given[i] = args[i];
            } else {
                given[i] = (int) args[i];
            }
        }
        try {
            return ((Number) m.invoke(x, given)).longValue();
        } catch (InvocationTargetException thrown) {
            fault(sentence + ": " + textOf(name, args) + " threw " + thrown.getCause());
            return Long.MIN_VALUE;
        } catch (IllegalAccessException never) {
            throw new IllegalStateException(never);
        }
    }

    private static String textOf(String name, long[] args) {
        StringBuilder text = new StringBuilder(name).append('(');
        for (int i = 0; i < args.length; i++) {
            text.append(i == 0 ? "" : ", ").append(args[i]);
        }
        return text.append(')').toString();
    }

    static WhoOpensOne feed(WhoOpensOne x, String text) {
        byte[] bytes = text.getBytes(StandardCharsets.ISO_8859_1);
        for (int i = 0; i < bytes.length; ) {
            int n = Math.min(4, bytes.length - i);
            int v = 0;
            for (int k = 0; k < n; k++, i++) {
                v = v << 8 | bytes[i] & 255;
            }
            x.feed(v, n);
        }
        return x;
    }

    /** A new object with this house: as a tape would have it, but by calls of their own. */
    static WhoOpensOne house(String text) {
        WhoOpensOne x = new WhoOpensOne();
        for (String statement : text.split(";")) {
            String[] word = statement.trim().split(" +");
            int first = Integer.parseInt(word[1]);
            switch (word[0]) {
                case "door":
                    int door = x.door(first, Integer.parseInt(word[2]), Integer.parseInt(word[3]));
                    x.stand(door, word.length > 4);
                    break;
                case "one":
                    x.one(first);
                    break;
                default:
                    x.ask(word[0].equals("law") ? 0 : 1, first);
            }
        }
        return x;
    }
}
