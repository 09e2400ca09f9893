import java.lang.reflect.Method;
import java.nio.file.Files;
import java.nio.file.Path;
import java.util.regex.Matcher;
import java.util.regex.Pattern;

/** Every call that README.md shows answers the number that its comment begins with. */
final class ReadmeTest {
    private static final Due DUE = new Due("ReadmeTest");
    private static final Pattern CALL = Pattern.compile("^bench\\.(\\w+)\\(([^)]*)\\);\\s*// (-?\\d+)\\b.*$");

    public static void main(String[] args) throws Exception {
        YesPlanes bench = null;
        for (String line : Files.readAllLines(Path.of(args.length > 0 ? args[0] : ".", "README.md"))) {
            Matcher call = CALL.matcher(line);
            if (line.equals("YesPlanes bench = new YesPlanes();")) {
                bench = new YesPlanes();
            } else if (call.matches()) {
                Number got = answer(bench, call.group(1), call.group(2));
                DUE.is(call.group(1) + "(" + call.group(2) + ")", got.longValue(), Long.parseLong(call.group(3)));
            } else {
                DUE.holds("an answer stands behind: " + line, !line.startsWith("bench."));
            }
        }
        DUE.end();
    }

    private static Number answer(YesPlanes bench, String name, String list) throws Exception {
        String[] words = list.isEmpty() ? new String[0] : list.split(", ");
        for (Method m : YesPlanes.class.getMethods()) {
            if (m.getName().equals(name) && m.getParameterCount() == words.length) {
                Object[] values = new Object[words.length];
                for (int k = 0; k < words.length; k++) {
                    values[k] = m.getParameterTypes()[k] == long.class ? (Object) Long.valueOf(words[k])
                            : Integer.valueOf(words[k]);
                }
                return (Number) m.invoke(bench, values);
            }
        }
        throw new IllegalStateException("README.md shows " + name + ", which is not there");
    }
}
