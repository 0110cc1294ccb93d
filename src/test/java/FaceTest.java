import java.lang.reflect.Constructor;
import java.lang.reflect.Field;
import java.lang.reflect.Method;
import java.lang.reflect.Modifier;
import java.nio.file.Files;
import java.nio.file.Path;
import java.util.ArrayList;
import java.util.Arrays;
import java.util.List;
import java.util.TreeSet;
import java.util.regex.Matcher;
import java.util.regex.Pattern;

/** The public face as the document tells it, and rules of LANGUAGE.md that can be seen from outside. */
public final class FaceTest {
    private static final String[] FACE = {"feed(int,int,int,int,int)int", "end(int)boolean", "fault(int)int",
        "text(int)int", "rule(int)int", "corner(int,int)int", "person(int,int)int", "law(int)boolean",
        "dogs(int)boolean", "day()int", "crumb(int,int)int", "renew(int)int", "constable(int)int", "about(int)int",
        "give(int)int", "years(int,long)int", "undo()int", "log(int,int)int", "step(int,int,int)int",
        "run(int,int)int", "perform(int)int", "pulled(int,int)int", "caught(int)int", "baits(int,int)int",
        "seen(int,int,int,boolean)int", "moves(int,int)int", "ask(int,int)int", "safe(int)int", "passes(int)int",
        "walk(int)int", "game(int,int,int,int,int)int", "rests(int,int,int)int", "odds(int,int)int",
        "lasts(int)int", "yearly(int)int", "all(int)int", "kinds(int)int", "needs(int,int)int",
        "shares(int,int)int", "image()int", "back()int", "count(int)int"};
    private static final String[] FORBIDDEN = {"->", "::", "synchronized", "assert", "finally", "try", "catch",
        "Exact", "Math.sqrt", "Math.random", "System.nanoTime", "System.currentTimeMillis", "System.out", "@",
        "while (true)", "for (;;)", "float", "double", "protected", "record ", "String.format", ".hashCode",
        ".toString", "Object", "var "};

    public static void main(String[] args) throws Exception {
        Check.same("NONE", TrapCorner.NONE, -1);
        Check.same("HIDDEN", TrapCorner.HIDDEN, -1000000);
        methods();
        others();
        String source = Files.readString(Path.of("src/main/java/TrapCorner.java"));
        forbidden(source);
        shortMethods(source);
        boundsOfEachPromise();
        Check.close();
    }

    /** No promise is without boundary cases that are tested by themselves. */
    private static void boundsOfEachPromise() throws Exception {
        TreeSet<Integer> tested = new TreeSet<>();
        for (String name : new String[] {"TextBounds", "DayBounds", "ApartBounds", "Refused"}) {
            String test = Files.readString(Path.of("src/test/java/" + name + "Test.java"));
            Matcher m = Pattern.compile("Check\\.bound\\((\\d+),").matcher(test);
            while (m.find()) {
                tested.add(Integer.parseInt(m.group(1)));
            }
        }
        for (int promise = 1; promise <= 43; promise++) {
            Check.same("bounds of promise " + promise + " are tested", tested.contains(promise), true);
        }
    }

    private static String sign(Method m) {
        List<String> types = new ArrayList<>();
        for (Class<?> c : m.getParameterTypes()) {
            types.add(c.getName());
        }
        return m.getName() + "(" + String.join(",", types) + ")" + m.getReturnType().getName();
    }

    private static void methods() {
        TreeSet<String> want = new TreeSet<>(Arrays.asList(FACE));
        TreeSet<String> names = new TreeSet<>();
        TreeSet<String> got = new TreeSet<>();
        for (String f : FACE) {
            names.add(f.substring(0, f.indexOf('(')));
        }
        for (Method m : TrapCorner.class.getDeclaredMethods()) {
            if (Modifier.isPrivate(m.getModifiers())) {
                Check.same("a private method named " + m.getName(), names.contains(m.getName()), false);
            } else {
                Check.same(m.getName() + " is public and not static", m.getModifiers() == Modifier.PUBLIC, true);
                got.add(sign(m));
            }
        }
        Check.same("the face is " + got, got.equals(want), true);
        for (Class<?> inner : TrapCorner.class.getDeclaredClasses()) {
            Check.same(inner + " is static", Modifier.isStatic(inner.getModifiers()), true);
            for (Method m : inner.getDeclaredMethods()) {
                Check.same(inner + " has a method named " + m.getName(), names.contains(m.getName()), false);
            }
        }
    }

    private static void others() {
        Check.same("final", Modifier.isFinal(TrapCorner.class.getModifiers()), true);
        int seen = 0;
        int kept = 0;
        for (Field f : TrapCorner.class.getDeclaredFields()) {
            boolean isPrivate = Modifier.isPrivate(f.getModifiers());
            seen += isPrivate ? 0 : 1;
            kept += Modifier.isStatic(f.getModifiers()) ? 0 : 1;
            Check.same(f.getName() + " is a constant or no static", !Modifier.isStatic(f.getModifiers())
                    || Modifier.isFinal(f.getModifiers()), true);
        }
        Check.same("visible fields", seen, 2);
        Check.same("some twenty fields at most", kept <= 20, true);
        Constructor<?>[] made = TrapCorner.class.getDeclaredConstructors();
        Check.same("constructors", made.length, 1);
        Check.same("some twelve classes at most", TrapCorner.class.getDeclaredClasses().length <= 12, true);
    }

    private static void forbidden(String source) {
        String code = source.replaceAll("(?s)/\\*.*?\\*/", "").replaceAll("//.*", "");
        for (String word : FORBIDDEN) {
            Check.same("the source has " + word, code.contains(word), false);
        }
        TreeSet<String> imports = new TreeSet<>();
        Matcher m = Pattern.compile("import ([a-zA-Z.]+);").matcher(code);
        while (m.find()) {
            imports.add(m.group(1));
        }
        Check.same("imports " + imports, imports.toString().equals("[java.util.Arrays, java.util.NoSuchElementException]"), true);
        for (char c : source.toCharArray()) {
            if (c > 126) {
                Check.same("a sign beyond 126", c, 0);
            }
        }
    }

    private static void shortMethods(String source) {
        String[] lines = source.split("\n");
        int from = -1;
        String indent = "";
        for (int i = 0; i < lines.length; i++) {
            Matcher head = Pattern.compile("^( {4}| {8})[a-zA-Z].*\\) (throws \\w+ )?\\{$").matcher(lines[i]);
            if (head.matches()) {
                from = i;
                indent = head.group(1);
            } else if (from >= 0 && lines[i].equals(indent + "}")) {
                Check.same("lines of " + lines[from].trim(), i - from <= 60, true);
                from = -1;
            }
        }
    }
}
