import java.io.IOException;
import java.lang.reflect.Constructor;
import java.lang.reflect.Field;
import java.lang.reflect.Method;
import java.lang.reflect.Modifier;
import java.nio.file.Files;
import java.nio.file.Path;
import java.util.ArrayList;
import java.util.Arrays;
import java.util.List;
import java.util.Set;
import java.util.TreeSet;
import java.util.regex.Matcher;
import java.util.regex.Pattern;

/** The public face as the document prints it, and the rules of LANGUAGE.md that can be seen from outside. */
public final class FaceTest {
    private static final Checks CHECKS = new Checks();
    private static final String[] FACE = {"letters long", "blank", "fault int", "pan", "plan", "planTold int int",
        "cell int int", "warm int int", "fat int", "scrape", "fry int", "cake int int", "as int int",
        "thick int int", "tried int int", "from int", "dogs int", "why int", "bestFire int int int",
        "bestSwing int int int", "nextTwo int", "rounds int int int int int int", "toss int int",
        "lands int int int int", "bestSpin int int", "image", "restore", "count int", "digest"};
    private static final String[] FORBIDDEN = {"catch", "throw", "try", "finally", "synchronized", "assert", "static {",
        "->", "::", "System.out", "double", "float", "extends Exception", "protected", "@",
        "MAX_VALUE", "MIN_VALUE"};

    private static void theFace() {
        Set<String> found = new TreeSet<>();
        for (Method m : FirstPancake.class.getDeclaredMethods()) {
            if (Modifier.isPublic(m.getModifiers())) {
                StringBuilder row = new StringBuilder(m.getName());
                for (Class<?> p : m.getParameterTypes()) {
                    row.append(' ').append(p.getName());
                }
                found.add(row.toString());
                String answer = m.getName().equals("digest") ? "long" : "int";
                CHECKS.due(m.getName() + " answers " + answer, m.getReturnType().getName().equals(answer) ? 1 : 0, 1);
            } else {
                CHECKS.due(m.getName() + " is private", Modifier.isPrivate(m.getModifiers()) ? 1 : 0, 1);
            }
        }
        CHECKS.due("the face is " + found, found.equals(new TreeSet<>(Arrays.asList(FACE))) ? 1 : 0, 1);
        Constructor<?>[] made = FirstPancake.class.getDeclaredConstructors();
        CHECKS.due("one constructor", made.length, 1);
        CHECKS.due("without arguments", made[0].getParameterCount(), 0);
        CHECKS.due("final", Modifier.isFinal(FirstPancake.class.getModifiers()) ? 1 : 0, 1);
    }

    private static void theConstants() throws IllegalAccessException {
        List<String> names = new ArrayList<>();
        for (Field f : FirstPancake.class.getDeclaredFields()) {
            if (!Modifier.isPrivate(f.getModifiers())) {
                names.add(f.getName() + " " + f.getInt(null));
            }
            if (Modifier.isStatic(f.getModifiers())) {
                CHECKS.due(f.getName() + " is final", Modifier.isFinal(f.getModifiers()) ? 1 : 0, 1);
            }
        }
        CHECKS.due("constants " + names, names.equals(List.of("NONE -1", "UNKNOWN -101", "OUTSIDE -102",
                "STATE -103", "FULL -104")) ? 1 : 0, 1);
    }

    private static void theClassesInside() {
        Class<?>[] inside = FirstPancake.class.getDeclaredClasses();
        CHECKS.due("some twelve classes", inside.length < 12 ? 1 : 0, 1);
        Set<String> faces = new TreeSet<>();
        for (String row : FACE) {
            faces.add(row.split(" ")[0]);
        }
        for (Class<?> c : inside) {
            CHECKS.due(c + " is static", Modifier.isStatic(c.getModifiers()) ? 1 : 0, 1);
            for (Method m : c.getDeclaredMethods()) {
                CHECKS.due(c + "." + m.getName() + " has a name of its own", faces.contains(m.getName()) ? 1 : 0, 0);
                CHECKS.due("parameters of " + m.getName(), m.getParameterCount() <= 7 ? 1 : 0, 1);
            }
        }
    }

    private static void theSource() throws IOException {
        String source = Files.readString(Path.of("src/main/java/FirstPancake.java"));
        String code = source.replaceAll("(?s)/\\*.*?\\*/", "").replaceAll("//[^\n]*", "");
        for (String word : FORBIDDEN) {
            Pattern p = Pattern.compile(word.matches("\\w+") ? "\\b" + word + "\\b" : Pattern.quote(word));
            CHECKS.due("no " + word, p.matcher(code).find() ? 1 : 0, 0);
        }
        Matcher imports = Pattern.compile("import ([^;]+);").matcher(code);
        while (imports.find()) {
            CHECKS.due("import " + imports.group(1), imports.group(1).equals("java.util.Arrays") ? 1 : 0, 1);
        }
        whereObjectsAreMade(code);
    }

    /** The room of a run is small, so objects are made with an object of the class and by no other call. */
    private static void whereObjectsAreMade(String code) {
        for (String line : code.split("\n")) {
            if (line.matches(".*\\bnew\\b.*")) {
                boolean field = line.matches("\\s+(private )?final [\\w\\[\\]]+ \\w+ = new .*");
                boolean constructor = line.matches("\\s+(plans|cakes)\\[i\\] = new .*");
                CHECKS.due("made here:" + line, field || constructor ? 1 : 0, 1);
            }
        }
    }

    public static void main(String[] args) throws Exception {
        theFace();
        theConstants();
        theClassesInside();
        theSource();
        CHECKS.end();
    }
}
