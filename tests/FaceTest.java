import java.io.IOException;
import java.lang.reflect.Constructor;
import java.lang.reflect.Field;
import java.lang.reflect.Method;
import java.lang.reflect.Modifier;
import java.nio.file.Files;
import java.nio.file.Path;
import java.nio.file.Paths;
import java.util.ArrayList;
import java.util.Arrays;
import java.util.HashSet;
import java.util.List;
import java.util.Set;
import java.util.TreeSet;
import java.util.regex.Matcher;
import java.util.regex.Pattern;

/** The public face of the document, and the rules of LANGUAGE.md that can be looked up in the source. */
public final class FaceTest {
    private static final String FACE = "bad 1, back 1, bars 1, best 2, bloom 3, coat 2, costs 2, count 1, counts 1, day 1,"
            + " drawn 2, end 1, fault 0, feed 5, fewest 2, file 3, force 1, image 1, judge 1, law 0, mend 2, month 1,"
            + " near 1, of 2, paint 2, person 1, put 3, row 0, same 3, sees 3, shut 1, soon 4, spoilt 0, status 0,"
            + " street 3, take 1, thing 5, third 2, turn 3, walk 3, way 5, where 2, window 3";

    public static void main(String[] args) throws IOException {
        face();
        classesInside();
        String text = code(Files.readString(source()));
        words(text);
        library(text);
        lengths(text);
        Due.finish();
    }

    /** The source lies where .ci/run was started from, or above the folder of the test. */
    private static Path source() {
        Path path = Paths.get("src/main/java/ThreeColours.java");
        return Files.exists(path) ? path : Paths.get("..").resolve(path);
    }

    private static void face() {
        Set<String> found = new TreeSet<>();
        for (Method method : ThreeColours.class.getDeclaredMethods()) {
            if (Modifier.isPrivate(method.getModifiers())) {
                continue;
            }
            found.add(method.getName() + " " + method.getParameterCount());
            Due.holds("rule 1: " + method, method.getModifiers() == Modifier.PUBLIC);
            Due.holds("face: int, " + method, method.getReturnType() == int.class);
            for (Class<?> type : method.getParameterTypes()) {
                Due.holds("face: of ints, " + method, type == int.class);
            }
        }
        Due.holds("face: " + found, found.equals(new TreeSet<>(Arrays.asList(FACE.split(", *")))));
        Constructor<?>[] constructors = ThreeColours.class.getDeclaredConstructors();
        Due.due("face: one constructor", constructors.length, 1);
        Due.holds("face: a public one", Modifier.isPublic(constructors[0].getModifiers()));
        Due.due("face: of nothing", constructors[0].getParameterCount(), 0);
        Due.due("face: public final", ThreeColours.class.getModifiers(), Modifier.PUBLIC | Modifier.FINAL);
        for (Field field : ThreeColours.class.getDeclaredFields()) {
            boolean constant = field.getName().equals("NONE");
            Due.holds("rule 1: " + field, constant
                    ? field.getModifiers() == (Modifier.PUBLIC | Modifier.STATIC | Modifier.FINAL)
                    : Modifier.isPrivate(field.getModifiers()));
        }
    }

    private static void classesInside() {
        List<Class<?>> all = new ArrayList<>(Arrays.asList(ThreeColours.class.getDeclaredClasses()));
        for (Class<?> inside : all) {
            Due.holds("rule 1: " + inside, Modifier.isPrivate(inside.getModifiers()));
            Due.holds("rule 2: " + inside, Modifier.isStatic(inside.getModifiers()));
            Due.due("rule 2: none further in, " + inside, inside.getDeclaredClasses().length, 0);
        }
        all.add(ThreeColours.class);
        Due.holds("rule 11: twelve classes", all.size() <= 12);
        Set<String> names = new HashSet<>();
        for (String row : FACE.split(", *")) {
            names.add(row.split(" ")[0]);
        }
        for (Class<?> one : all) {
            int fields = 0;
            for (Field field : one.getDeclaredFields()) {
                boolean isStatic = Modifier.isStatic(field.getModifiers());
                fields += isStatic ? 0 : 1;
                Due.holds("rule 5: " + field, !isStatic || Modifier.isFinal(field.getModifiers()));
                Class<?> type = field.getType();
                Due.holds("rule 5: " + field, !isStatic || type.isPrimitive() || type == String.class
                        || type == int[].class || type == long[].class || type == char[].class || type == byte[].class);
            }
            Due.holds("rule 11: twenty fields, " + one + " has " + fields, fields <= 20);
            for (Method method : one.getDeclaredMethods()) {
                Due.holds("rule 11: seven parameters, " + method, method.getParameterCount() <= 7);
                Due.holds("rule 1: a name of the face, " + method,
                        Modifier.isPublic(method.getModifiers()) || !names.contains(method.getName()));
            }
        }
    }

    /** The source without comments, texts and signs. */
    private static String code(String text) {
        return text.replaceAll("(?s)/\\*.*?\\*/", " ").replaceAll("\"(\\\\.|[^\"\\\\])*\"", "\"\"")
                .replaceAll("'(\\\\.|[^'\\\\])'", "' '").replaceAll("//[^\n]*", " ");
    }

    private static void words(String text) {
        for (String word : new String[] {"throw", "throws", "try", "catch", "finally", "synchronized", "assert", "volatile",
            "native", "package", "Object", "Exception", "Thread", "System.out", "System.nano", "Random", "protected",
            "double", "float", "hashCode", "toString", "var", "yield", "goto", "strictfp", "transient"}) {
            Due.holds("rule 6: " + word, !Pattern.compile("\\b" + word + "\\b").matcher(text).find());
        }
        Due.holds("rule 2: lambdas", !text.contains("->"));
        Due.holds("rule 2: references to methods", !text.contains("::"));
        Due.holds("rule 5: static blocks", !Pattern.compile("static\\s*\\{").matcher(text).find());
        for (int i = 0; i < text.length(); i++) {
            if (text.charAt(i) > 126) {
                Due.holds("rule 4: a sign beyond 126 at " + i, false);
            }
        }
    }

    private static void library(String text) {
        Matcher imports = Pattern.compile("import ([^;]*);").matcher(text);
        Set<String> found = new TreeSet<>();
        while (imports.find()) {
            found.add(imports.group(1));
        }
        Due.holds("rule 4: " + found, found.equals(Set.of("java.util.Arrays")));
        Set<String> allowed = Set.of("Arrays.fill", "Arrays.copyOf", "System.arraycopy", "Math.min", "Math.max",
                "Integer.bitCount");
        Matcher calls = Pattern.compile("\\b(Arrays|System|Math|Integer|Long|String|Character|List)\\.\\w+").matcher(text);
        while (calls.find()) {
            Due.holds("rule 4: " + calls.group(), allowed.contains(calls.group()));
        }
        Matcher fills = Pattern.compile("Arrays\\.fill\\(([^;]*)\\);").matcher(text);
        while (fills.find()) {
            Due.due("rule 4: a whole row is filled, " + fills.group(1), fills.group(1).split(",").length, 2);
        }
    }

    /** Methods of at most sixty lines, by the depth of their braces: methods of classes inside lie at eight blanks. */
    private static void lengths(String text) {
        String[] lines = text.split("\n");
        int from = -1;
        String indent = "";
        for (int i = 0; i < lines.length; i++) {
            Matcher head = Pattern.compile("^( {4}| {8})[a-z].*\\).*\\{$|^( {4}| {8})(?:public|private|static).*\\($").matcher(lines[i]);
            if (head.find() && !lines[i].contains(" class ")) {
                from = i;
                indent = lines[i].substring(0, lines[i].length() - lines[i].stripLeading().length());
            }
            if (from >= 0 && lines[i].equals(indent + "}")) {
                Due.holds("rule 11: sixty lines, " + lines[from].trim() + " has " + (i - from + 1), i - from < 60);
                from = -1;
            }
            Due.holds("a line of more than 130 signs: " + (i + 1), lines[i].length() <= 130);
        }
    }
}
