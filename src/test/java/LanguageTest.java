import java.io.IOException;
import java.lang.reflect.Constructor;
import java.lang.reflect.Field;
import java.lang.reflect.Method;
import java.lang.reflect.Modifier;
import java.nio.file.Files;
import java.nio.file.Path;
import java.util.Arrays;
import java.util.Map;
import java.util.Set;
import java.util.TreeMap;
import java.util.TreeSet;
import java.util.regex.Matcher;
import java.util.regex.Pattern;

/** The face as the document has it, and those rules of LANGUAGE.md that can be seen from outside. */
public final class LanguageTest {
    private static final String FACE = "row(int,int,int) set(int,int,long) copy(int,int,int,int,int) element(int,int) holds(int) "
            + "show(int,int) says(int,int) door(int,int,int) one(int) ask(int,int) stand(int,boolean) move(int,int) feed(int,int) "
            + "wipe() house() doorOf(int,int) where(int) doors(int,int) may(int,int,int) by(int,int,int) ways(int,int,int) "
            + "walk(int,int) shut(int,int) open(int,int,int) reach(int) shutIn() coming(int,int) all(int) first(int,int) "
            + "errands(int,int,int) lost() stock() lasts() worth(int) spare() endless() boxes(int) judge(int,int) "
            + "told(int,int,int) evening(int) night() seed(int) image() back() status(int)";
    private static final String[] BANNED = {"throw", "throws", "try", "catch", "finally", "synchronized", "assert", "import",
        "package", "->", "::", "Exact", "System\\.(?!arraycopy)", "transient", "volatile", "native", "var", "yield"};

    private static final Set<String> LIBRARY = Set.of("Math.max", "Math.min", "Math.abs", "Integer.bitCount",
            "Integer.numberOfTrailingZeros", "Integer.compare", "System.arraycopy", "Arrays.fill", "Arrays.copyOf");

    private static final Pattern METHOD = Pattern.compile("(?m)^(?<indent> {4}| {8})[a-z][\\w\\[\\] ]* (?<name>[a-z]\\w*)"
            + "\\([^;{]*\\) \\{\n(?<body>(?s:.*?))\n\\k<indent>\\}");
    private static final int MOST_LINES = 60;
    private static final int MOST_DEEP = 8;

    private static int wrong = 0;

    private static void hold(boolean fine, String what) {
        if (!fine) {
            wrong++;
            System.out.println(what);
        }
    }

    public static void main(String[] args) throws IOException {
        face();
        members();
        source(Files.readString(Path.of("src/main/java/WhoOpensOne.java")));
        System.out.println(wrong == 0 ? "the rules are kept" : wrong + " rules are broken");
        if (wrong != 0) {
            System.exit(1);
        }
    }

    private static void face() {
        Set<String> want = new TreeSet<>(Arrays.asList(FACE.split(" ")));
        Set<String> has = new TreeSet<>();
        for (Method m : WhoOpensOne.class.getDeclaredMethods()) {
            StringBuilder types = new StringBuilder();
            for (Class<?> type : m.getParameterTypes()) {
                types.append(types.length() == 0 ? "" : ",").append(type.getName());
            }
            String name = m.getName() + "(" + types + ")";
            if (Modifier.isPublic(m.getModifiers())) {
                has.add(name);
                Class<?> due = m.getName().equals("element") ? long.class : int.class;
                hold(m.getReturnType() == due && !Modifier.isStatic(m.getModifiers()), name + " has another shape");
            } else {
                hold(Modifier.isPrivate(m.getModifiers()), name + " is neither public nor private");
                hold(!(" " + FACE).contains(" " + m.getName() + "("), name + " bears the name of a public one");
            }
        }
        hold(has.equals(want), "the face is " + has);
        Constructor<?>[] made = WhoOpensOne.class.getDeclaredConstructors();
        hold(made.length == 1 && made[0].getParameterCount() == 0 && Modifier.isPublic(made[0].getModifiers()), "constructors");
        int kind = WhoOpensOne.class.getModifiers();
        hold(Modifier.isPublic(kind) && Modifier.isFinal(kind), "the class is not public and final");
    }

    private static void members() {
        hold(WhoOpensOne.class.getDeclaredClasses().length <= 12, "too many classes");
        checkFields(WhoOpensOne.class);
        for (Class<?> inner : WhoOpensOne.class.getDeclaredClasses()) {
            hold(Modifier.isStatic(inner.getModifiers()), inner + " is not static");
            checkFields(inner);
            for (Method m : inner.getDeclaredMethods()) {
                hold(!(" " + FACE).contains(" " + m.getName() + "("), m + " bears the name of a public one");
                hold(m.getParameterCount() <= 7, m + " takes too much");
            }
        }
    }

    private static void checkFields(Class<?> type) {
        int own = 0;
        for (Field f : type.getDeclaredFields()) {
            int modifiers = f.getModifiers();
            own += Modifier.isStatic(modifiers) ? 0 : 1;
            hold(!Modifier.isStatic(modifiers) || Modifier.isFinal(modifiers), f + " is static and not final");
            boolean constant = type == WhoOpensOne.class && f.getName().equals("NONE");
            hold(constant ? Modifier.isPublic(modifiers) : Modifier.isPrivate(modifiers), f + " can be seen otherwise than due");
        }
        hold(own <= 20, type + " has too many fields");
    }

    private static void source(String text) {
        String code = text.replaceAll("(?s)/\\*.*?\\*/", " ").replaceAll("//[^\n]*", " ").replaceAll("\"[^\"\n]*\"", "\"\"");
        for (String banned : BANNED) {
            boolean word = Character.isLetter(banned.charAt(0)) && banned.chars().allMatch(Character::isLetter);
            Pattern pattern = Pattern.compile(word ? "\\b" + banned + "\\b" : banned);
            hold(!pattern.matcher(code).find(), "the source has " + banned);
        }
        hold(text.chars().allMatch(c -> c < 128), "the source has signs beyond 127");
        Matcher library = Pattern.compile("\\b([A-Z]\\w*[a-z]\\w*)\\.(\\w+)\\(").matcher(code);
        while (library.find()) {
            String call = library.group(1) + "." + library.group(2);
            hold(LIBRARY.contains(call), "the source calls " + call);
        }
        methods(code);
    }

    /** Methods of one name in two classes are taken for one: so what calls what can only seem more than it is. */
    private static void methods(String code) {
        Map<String, Set<String>> called = new TreeMap<>();
        Matcher method = METHOD.matcher(code);
        while (method.find()) {
            hold(method.group().lines().count() <= MOST_LINES, "a long method: " + method.group("name"));
            Set<String> names = called.computeIfAbsent(method.group("name"), name -> new TreeSet<>());
            Matcher call = Pattern.compile("\\b([a-z]\\w*)\\(").matcher(method.group("body"));
            while (call.find()) {
                names.add(call.group(1));
            }
        }
        hold(called.size() > 100, "the methods were not found");
        for (String name : called.keySet()) {
            int deep = depth(name, called, 0);
            hold(deep <= MOST_DEEP, name + (deep > called.size() ? " calls itself" : " calls " + deep + " deep"));
        }
    }

    /** How many calls stand open at once, at most; more than there are methods, if one comes back to itself. */
    private static int depth(String name, Map<String, Set<String>> called, int above) {
        if (above > called.size()) {
            return 1;
        }
        int most = 0;
        for (String next : called.get(name)) {
            if (called.containsKey(next)) {
                most = Math.max(most, depth(next, called, above + 1));
                if (above + most > called.size()) {
                    break;
                }
            }
        }
        return most + 1;
    }
}
