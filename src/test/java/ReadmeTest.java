import java.lang.reflect.Method;
import java.lang.reflect.Modifier;
import java.nio.file.Files;
import java.nio.file.Path;
import java.util.Arrays;
import java.util.HashSet;
import java.util.Set;
import java.util.regex.Matcher;
import java.util.regex.Pattern;

/** The calls that README.md shows, one behind another on one object, answer what it shows. */
public final class ReadmeTest {
    private static final Path README = Path.of("README.md");
    private static final String FIRST = "SmallSpaces x = new SmallSpaces();";
    private static final Pattern BLOCK = Pattern.compile("(?ms)^```java\\n(.*?)^```$");
    private static final Pattern CALL = Pattern.compile("x\\.(\\w+)\\(([-\\d, ]*)\\); +// (-?\\d+|[A-Z]+): \\S.*");
    private static final Due DUE = new Due("ReadmeTest");

    public static void main(String[] args) throws Exception {
        SmallSpaces x = null;
        Set<String> shown = new HashSet<>();
        Matcher blocks = BLOCK.matcher(Files.readString(README));
        while (blocks.find()) {
            for (String line : blocks.group(1).split("\n")) {
                if (line.equals(FIRST)) {
                    x = new SmallSpaces();
                } else {
                    shown.add(answers(x, line));
                }
            }
        }
        for (Method method : SmallSpaces.class.getDeclaredMethods()) {
            if (Modifier.isPublic(method.getModifiers())) {
                DUE.holds(method.getName() + " is shown", shown.contains(method.getName()));
            }
        }
        DUE.end();
    }

    /** Makes the call that a line shows, and answers its name. */
    private static String answers(SmallSpaces x, String line) throws Exception {
        Matcher call = CALL.matcher(line);
        if (x == null || !call.matches()) {
            DUE.holds("a call with its answer: " + line, false);
            return "";
        }
        Object[] numbers = Arrays.stream(call.group(2).split(", ")).filter(number -> !number.isEmpty())
            .map(Integer::valueOf).toArray();
        Class<?>[] types = new Class<?>[numbers.length];
        Arrays.fill(types, int.class);
        Number got = (Number) SmallSpaces.class.getMethod(call.group(1), types).invoke(x, numbers);
        DUE.is(line, got.longValue(), answer(call.group(3)));
        return call.group(1);
    }

    private static long answer(String shown) throws Exception {
        boolean isName = Character.isLetter(shown.charAt(0));
        return isName ? SmallSpaces.class.getField(shown).getInt(null) : Long.parseLong(shown);
    }
}
