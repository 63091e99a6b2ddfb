import java.io.IOException;
import java.lang.reflect.Constructor;
import java.lang.reflect.Field;
import java.lang.reflect.InvocationTargetException;
import java.lang.reflect.Method;
import java.lang.reflect.Modifier;
import java.nio.file.Files;
import java.nio.file.Path;
import java.util.ArrayList;
import java.util.Arrays;
import java.util.List;
import java.util.TreeSet;
import java.util.regex.Matcher;
import java.util.regex.Pattern;

/** The face of the document, the rules of LANGUAGE.md that can be seen from outside, and that no call throws. */
public final class FaceTest {
    private static final Checks C = new Checks();
    private static final int[] FAR = {Integer.MIN_VALUE, -33, -32, -2, -1, 0, 1, 2, 5, 6, 7, 8, 13, 31, 32, 33, 40, 41, 64,
        1000, Integer.MAX_VALUE};

    public static void main(String[] args) throws ReflectiveOperationException, IOException {
        face();
        constants();
        nested();
        words();
        madeWithTheObject();
        noCallThrows();
        C.end();
    }

    private static String typesOf(Class<?>[] types) {
        StringBuilder line = new StringBuilder();
        for (Class<?> type : types) {
            line.append(line.length() == 0 ? "" : ", ").append(type.getName());
        }
        return line.toString();
    }

    /** The methods that the document's face names, each as "int give(int, int)". */
    private static TreeSet<String> methodsOfTheDocument() throws IOException {
        TreeSet<String> methods = new TreeSet<>();
        String doc = Files.readString(Path.of("../shared/DOC.md"));
        Matcher m = Pattern.compile("^    public int (\\w+)\\((.*)\\);", Pattern.MULTILINE).matcher(doc);
        while (m.find()) {
            methods.add("int " + m.group(1) + "(" + m.group(2).replaceAll("(\\w+) \\w+", "$1") + ")");
        }
        return methods;
    }

    private static void face() throws IOException {
        C.part("the face");
        TreeSet<String> methods = new TreeSet<>();
        for (Method m : EveryHand.class.getDeclaredMethods()) {
            if (!Modifier.isPrivate(m.getModifiers())) {
                methods.add(m.getReturnType().getName() + " " + m.getName() + "(" + typesOf(m.getParameterTypes()) + ")");
            }
        }
        if (methods.size() != 43 || !methods.equals(methodsOfTheDocument())) {
            C.wrong("other methods than the document's: " + methods);
        }
        Constructor<?>[] made = EveryHand.class.getDeclaredConstructors();
        if (made.length != 1 || !Modifier.isPublic(made[0].getModifiers()) || made[0].getParameterCount() != 0) {
            C.wrong("other constructors: " + Arrays.toString(made));
        }
        if (EveryHand.class.getModifiers() != (Modifier.PUBLIC | Modifier.FINAL)) {
            C.wrong("the class is not public and final");
        }
    }

    private static void constants() throws ReflectiveOperationException {
        C.part("the constants");
        TreeSet<String> open = new TreeSet<>();
        for (Field f : EveryHand.class.getDeclaredFields()) {
            if (!Modifier.isPrivate(f.getModifiers())) {
                open.add(f.getName() + " " + Modifier.toString(f.getModifiers()) + " " + f.getInt(null));
            }
        }
        if (!open.equals(new TreeSet<>(List.of("BAD public static final -1", "FULL public static final -2",
            "NONE public static final -3", "STATE public static final -4")))) {
            C.wrong("other fields: " + open);
        }
    }

    private static void nested() {
        C.part("rules 1, 2, 5, 11");
        TreeSet<String> names = new TreeSet<>();
        for (Method m : EveryHand.class.getDeclaredMethods()) {
            if (Modifier.isPublic(m.getModifiers())) {
                names.add(m.getName());
            }
        }
        List<Class<?>> classes = new ArrayList<>(List.of(EveryHand.class.getDeclaredClasses()));
        for (Class<?> c : classes) {
            if (!Modifier.isStatic(c.getModifiers()) || Modifier.isPublic(c.getModifiers()) || Modifier.isProtected(c.getModifiers())) {
                C.wrong(c + " is not static, or is open");
            }
        }
        classes.add(EveryHand.class);
        for (Class<?> c : classes) {
            for (Field f : c.getDeclaredFields()) {
                if (Modifier.isStatic(f.getModifiers()) && !Modifier.isFinal(f.getModifiers())) {
                    C.wrong(f + " is static and not final");
                }
            }
            for (Method m : c.getDeclaredMethods()) {
                if (m.getParameterCount() > 7 || !Modifier.isPublic(m.getModifiers()) && names.contains(m.getName())) {
                    C.wrong(m + " has too many parameters, or the name of a public one");
                }
            }
        }
    }

    private static void words() throws IOException {
        C.part("rules 2, 3, 4, 6, 13");
        String source = Files.readString(Path.of("src/main/java/EveryHand.java"))
            .replaceAll("(?s)/\\*.*?\\*/", "").replaceAll("//[^\n]*", "").replaceAll("\"[^\"\n]*\"", "\"\"");
        String[] none = {"throw", "throws", "try", "catch", "synchronized", "assert", "package", "import", "native", "volatile",
            "Object", "Thread", "Random", "Exception", "equals", "hashCode", "toString", "\\w+Exact", "this", "->", "::"};
        for (String word : none) {
            String bounds = Character.isLetter(word.charAt(0)) || word.charAt(0) == '\\' ? "\\b" : "";
            if (Pattern.compile(bounds + word + bounds).matcher(source).find()) {
                C.wrong("the source has " + word);
            }
        }
    }

    /** Rule 12, and what README.md says: fields alone are made, so a call makes nothing that would fill the room of a run. */
    private static void madeWithTheObject() throws IOException {
        C.part("rule 12");
        Pattern field = Pattern.compile("^ {4,8}(private |final |static )*[A-Z]?\\w+(\\[\\])* \\w+ = new [^;]*;$");
        for (String line : Files.readAllLines(Path.of("src/main/java/EveryHand.java"))) {
            boolean makes = Pattern.compile("\\bnew\\b|\\.clone\\(|copyOf").matcher(line).find();
            if (makes && !line.trim().startsWith("/*") && !field.matcher(line).matches()) {
                C.wrong("made by a call: " + line.trim());
            }
        }
    }

    private static void noCallThrows() throws ReflectiveOperationException {
        C.part("rule 7");
        String[] towns = {"", "person 1;", "person 1;person 0;know 0 1;coin 5 of 0;worn 5 of 1 had 0;",
            "person 1;person 2;person 3;person 4;person 5;person 6;person 7;know 0 6;know 1 2;"
                + "coin 1 of 0;half 2 of 1;crown 3 of 2;false 4 of 3;blessed 5 of 4;worn 6 of 5;"};
        for (Method m : EveryHand.class.getMethods()) {
            if (m.getDeclaringClass() == EveryHand.class) {
                for (String town : towns) {
                    callFar(m, town);
                }
            }
        }
    }

    private static void callFar(Method m, String town) throws ReflectiveOperationException {
        int many = m.getParameterCount();
        int rounds = (int) Math.pow(FAR.length, Math.min(many, 3));
        EveryHand x = ready(town);
        for (int round = 0; round < rounds; round++) {
            if (round % 400 == 0) {
                x = ready(town);
            }
            Object[] with = new Object[many];
            for (int i = 0, draw = round; i < many; i++, draw /= FAR.length) {
                int v = FAR[(draw + (i == 3 ? round / 7 : 0)) % FAR.length];
                Class<?> type = m.getParameterTypes()[i];
                with[i] = type == boolean.class ? (Object) (v % 2 == 0) : type == long.class ? (Object) (long) v : (Object) v;
            }
            try {
                m.invoke(x, with);
            } catch (InvocationTargetException thrown) {
                C.wrong(m.getName() + Arrays.toString(with) + " threw " + thrown.getCause());
            }
        }
    }

    private static EveryHand ready(String town) {
        EveryHand x = Checks.of(town);
        x.prove(0);
        x.sheet(0, 2, 40);
        x.shelf(0, 0, 0);
        x.shelf(1, 1, 0);
        x.feed(0x7FFFFFFFFFFFFFFFL, 8);
        return x;
    }
}
