import java.lang.reflect.Method;
import java.nio.file.Files;
import java.nio.file.Path;
import java.util.regex.Matcher;
import java.util.regex.Pattern;

/** What README.md says of its example is so: each line "x.call(numbers);  // answer: .." is called and compared. */
public final class ReadmeTest {
    private static final Pattern LINE = Pattern.compile("^x\\.(\\w+)\\(([^)]*)\\); +// (-?\\d+|true|false)\\b.*$");

    public static void main(String[] args) throws Exception {
        String readme = Files.readString(Path.of("README.md"));
        TrapCorner x = new TrapCorner();
        int lines = 0;
        for (String line : readme.split("\n")) {
            Matcher m = LINE.matcher(line);
            if (m.matches()) {
                lines++;
                Check.same("README.md: " + m.group(1) + "(" + m.group(2) + ")", call(x, m.group(1), m.group(2)).equals(m.group(3)), true);
            } else {
                Check.same("README.md: an example without its answer: " + line, line.startsWith("x."), false);
            }
        }
        Check.same("README.md has an example", lines >= 10, true);
        for (Method m : TrapCorner.class.getDeclaredMethods()) {
            if (java.lang.reflect.Modifier.isPublic(m.getModifiers())) {
                Check.same("README.md names " + m.getName(), readme.contains("`" + m.getName() + "`"), true);
            }
        }
        Check.close();
    }

    private static String call(TrapCorner x, String name, String numbers) throws Exception {
        String[] words = numbers.isEmpty() ? new String[0] : numbers.split(", *");
        for (Method m : TrapCorner.class.getDeclaredMethods()) {
            if (m.getName().equals(name)) {
                Object[] args = new Object[words.length];
                for (int i = 0; i < words.length; i++) {
                    Class<?> type = m.getParameterTypes()[i];
                    args[i] = type == boolean.class ? (Object) Boolean.valueOf(words[i])
                            : type == long.class ? (Object) Long.decode(words[i]) : (Object) Integer.decode(words[i]);
                }
                return String.valueOf(m.invoke(x, args));
            }
        }
        return "no such call";
    }
}
