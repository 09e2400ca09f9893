import java.lang.reflect.Constructor;
import java.lang.reflect.Field;
import java.lang.reflect.Method;
import java.lang.reflect.Modifier;
import java.nio.file.Files;
import java.nio.file.Path;
import java.util.Arrays;
import java.util.Set;
import java.util.TreeSet;
import java.util.regex.Matcher;
import java.util.regex.Pattern;

/** The public face is the document's and no more, and the source keeps to what LANGUAGE.md lets be seen. */
final class FaceTest {
    private static final Due DUE = new Due("FaceTest");
    private static final String[] FACE = {
        "int point(int,int,int)", "int of(int,int)", "int drop(int)", "int paint(int,int,int)",
        "int sheet(int,int,int)", "int write(int,int,long)", "long read(int,int)", "int copy(int,int,int,int,int)",
        "int take(int,int,int,int)", "int parted()", "long wide(int)", "int side(int)", "long meet(int)",
        "int check(int,int,int)", "int ways(int)", "int isWay(int,int)", "int best(int,int)", "int shatter(int)",
        "int learn(int)", "long learnt(int)", "int anew()", "int judge(int,int,int)", "int halve()", "int left()",
        "int dismiss()", "int strong(int)", "long step(int,int)", "int end()", "long mass(int)", "int vote(int,int)",
        "int hull(int,int)", "int depth(int,int)", "int halves()", "int boxes()", "int image(int)", "int back(int)",
        "int count(int)", "int status()"};

    public static void main(String[] args) throws Exception {
        face();
        classesInside();
        source(Path.of(args.length > 0 ? args[0] : ".", "src", "main", "java", "YesPlanes.java"));
        DUE.end();
    }

    private static void face() {
        Class<YesPlanes> face = YesPlanes.class;
        DUE.holds("public final class",
                Modifier.isPublic(face.getModifiers()) && Modifier.isFinal(face.getModifiers()));
        Set<String> found = new TreeSet<>();
        for (Method m : face.getDeclaredMethods()) {
            if (Modifier.isPrivate(m.getModifiers())) {
                continue;
            }
            DUE.holds(m + " is public and no static one",
                    Modifier.isPublic(m.getModifiers()) && !Modifier.isStatic(m.getModifiers()));
            String params = Arrays.toString(m.getParameterTypes()).replaceAll("[\\[\\] ]", "");
            found.add(m.getReturnType() + " " + m.getName() + "(" + params + ")");
        }
        DUE.holds("the methods are the document's: " + found, found.equals(new TreeSet<>(Arrays.asList(FACE))));
        for (Field f : face.getDeclaredFields()) {
            boolean isNone = f.getName().equals("NONE") && Modifier.isPublic(f.getModifiers());
            DUE.holds(f + " is private", isNone || Modifier.isPrivate(f.getModifiers()));
            DUE.holds(f + " is final if static",
                    !Modifier.isStatic(f.getModifiers()) || Modifier.isFinal(f.getModifiers()));
        }
        Constructor<?>[] made = face.getDeclaredConstructors();
        DUE.holds("one public constructor without arguments",
                made.length == 1 && Modifier.isPublic(made[0].getModifiers()) && made[0].getParameterCount() == 0);
    }

    private static void classesInside() {
        Set<String> names = new TreeSet<>();
        for (String line : FACE) {
            names.add(line.substring(line.indexOf(' ') + 1, line.indexOf('(')));
        }
        Class<?>[] inside = YesPlanes.class.getDeclaredClasses();
        DUE.holds("some twelve classes", inside.length + 1 <= 12);
        for (Class<?> c : inside) {
            DUE.holds(c + " is static, neither public nor protected", Modifier.isStatic(c.getModifiers())
                    && !Modifier.isPublic(c.getModifiers()) && !Modifier.isProtected(c.getModifiers()));
            fewFields(c);
            for (Method m : c.getDeclaredMethods()) {
                DUE.holds(m + " bears no name of the face", !names.contains(m.getName()));
                DUE.holds(m + " has at most seven parameters", m.getParameterCount() <= 7);
            }
        }
        fewFields(YesPlanes.class);
        for (Method m : YesPlanes.class.getDeclaredMethods()) {
            DUE.holds(m + " bears no name of the face",
                    !Modifier.isPrivate(m.getModifiers()) || !names.contains(m.getName()));
        }
    }

    private static void fewFields(Class<?> c) {
        int own = 0;
        for (Field f : c.getDeclaredFields()) {
            own += Modifier.isStatic(f.getModifiers()) ? 0 : 1;
        }
        DUE.holds(c + " has at most some twenty fields, not " + own, own <= 20);
    }

    private static void source(Path file) throws Exception {
        String text = Files.readString(file);
        String code = text.replaceAll("(?s)/\\*.*?\\*/", "").replaceAll("//[^\n]*", "");
        String[] banned = {"throw", "throws", "try", "catch", "finally", "synchronized", "assert", "package",
            "hashCode", "toString", "equals", "\\w+Exact", "->", "::", "double", "float", "protected", "volatile", "native"};
        for (String word : banned) {
            String pattern = Character.isLetter(word.charAt(0)) || word.startsWith("\\") ? "\\b" + word + "\\b" : word;
            DUE.holds("no " + word, !Pattern.compile(pattern).matcher(code).find());
        }
        Matcher imports = Pattern.compile("import\\s+([\\w.*]+);").matcher(code);
        while (imports.find()) {
            DUE.holds("import " + imports.group(1), imports.group(1).equals("java.util.Arrays"));
        }
        Matcher library = Pattern.compile("\\b(Math|Integer|Long|Arrays|System)\\.(\\w+)").matcher(code);
        Set<String> known = Set.of("max", "min", "abs", "bitCount", "fill", "arraycopy");
        while (library.find()) {
            DUE.holds(library.group() + " is of the library", known.contains(library.group(2)));
        }
        shortMethods(code);
    }

    /** A method begins with a line that ends with a brace at one of two depths, and ends at its own depth. */
    private static void shortMethods(String code) {
        String[] lines = code.split("\n");
        for (int i = 0; i < lines.length; i++) {
            Matcher head = Pattern.compile("^( {4}| {8})(?!.*\\bclass\\b)\\w.*\\) \\{$").matcher(lines[i]);
            if (head.find()) {
                int end = i;
                while (end < lines.length && !lines[end].equals(head.group(1) + "}")) {
                    end++;
                }
                DUE.holds("short: " + lines[i].trim(), end - i <= 60);
            }
        }
    }
}
