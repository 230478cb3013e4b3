import java.lang.reflect.Constructor;
import java.lang.reflect.Field;
import java.lang.reflect.Method;
import java.lang.reflect.Modifier;
import java.nio.file.Files;
import java.nio.file.Path;
import java.util.HashSet;
import java.util.Set;
import java.util.TreeSet;
import java.util.regex.Pattern;

/** The public face of the class, and the rules of LANGUAGE.md that its shape or its text shows. */
public final class FaceTests {
    private static final Set<String> FACE = Set.of(
            "int BAD", "int FULL", "int NONE",
            "GrammarSuite()",
            "int rule(int, int, int)", "boolean drop(int)", "int rules()",
            "int write(int)", "int cut(int)",
            "boolean makes(int, int)", "boolean stretch(int, int, int, int)",
            "boolean agree(int, int)", "int longest(int)", "int parts(int)",
            "int empty()", "int able()", "int first(int)", "int shortest(int)",
            "int count(int, int)");
    private static final Set<Class<?>> TYPES = Set.of(int.class, long.class, short.class,
            byte.class, char.class, boolean.class, int[].class, long[].class, short[].class,
            byte[].class, char[].class, boolean[].class);
    private static final String[] WORDS_NOT_USED = {
        "package", "import", "throw", "throws", "try", "catch", "synchronized", "assert",
        "instanceof", "float", "double", "null", "String", "Math", "Integer", "System", "Arrays",
        "Object", "interface", "enum", "protected", "clone", "hashCode", "getClass",
    };

    private static int wrong = 0;

    public static void main(String[] args) throws Exception {
        publicFace();
        members();
        text();
        System.out.println(wrong == 0 ? "the face is as due" : wrong + " faults");
        if (wrong != 0) {
            System.exit(1);
        }
    }

    private static void due(String what, boolean holds) {
        if (!holds) {
            wrong++;
            System.out.println("does not hold: " + what);
        }
    }

    private static void publicFace() {
        Class<?> c = GrammarSuite.class;
        Set<String> face = new TreeSet<>();
        for (Field f : c.getDeclaredFields()) {
            if (!Modifier.isPrivate(f.getModifiers())) {
                due(f + " is a public constant", f.getModifiers()
                        == (Modifier.PUBLIC | Modifier.STATIC | Modifier.FINAL));
                face.add(f.getType() + " " + f.getName());
            }
        }
        for (Constructor<?> k : c.getDeclaredConstructors()) {
            due(k + " is public", Modifier.isPublic(k.getModifiers()));
            face.add("GrammarSuite(" + types(k.getParameterTypes()) + ")");
        }
        for (Method m : c.getDeclaredMethods()) {
            if (!Modifier.isPrivate(m.getModifiers())) {
                due(m + " is public and no more", m.getModifiers() == Modifier.PUBLIC);
                face.add(m.getReturnType() + " " + m.getName() + "("
                        + types(m.getParameterTypes()) + ")");
            }
        }
        due("the face is the document's: " + face, face.equals(FACE));
        due("the class is public and final",
                c.getModifiers() == (Modifier.PUBLIC | Modifier.FINAL));
        due("it extends and implements nothing",
                c.getSuperclass() == Object.class && c.getInterfaces().length == 0);
        due("it has no nested class", c.getDeclaredClasses().length == 0);
    }

    private static String types(Class<?>[] types) {
        StringBuilder names = new StringBuilder();
        for (Class<?> type : types) {
            names.append(names.length() == 0 ? "" : ", ").append(type.getName());
        }
        return names.toString();
    }

    private static void members() {
        int fields = 0;
        for (Field f : GrammarSuite.class.getDeclaredFields()) {
            boolean isStatic = Modifier.isStatic(f.getModifiers());
            fields += isStatic ? 0 : 1;
            due(f + " has a type that may be used", TYPES.contains(f.getType()));
            due(f + " is a constant if it is static", !isStatic
                    || Modifier.isFinal(f.getModifiers())
                    && (f.getType() == int.class || f.getType() == long.class));
        }
        due("there are at most forty fields", fields <= 40);
        Set<String> publicNames = new HashSet<>();
        for (Method m : GrammarSuite.class.getMethods()) {
            publicNames.add(m.getName());
        }
        for (Method m : GrammarSuite.class.getDeclaredMethods()) {
            due(m + " bears no public method's name", !Modifier.isPrivate(m.getModifiers())
                    || !publicNames.contains(m.getName()));
            due(m + " takes at most seven parameters", m.getParameterCount() <= 7);
            due(m + " answers no array", !m.getReturnType().isArray());
            for (Class<?> type : m.getParameterTypes()) {
                due(m + " takes what may be used", TYPES.contains(type));
            }
        }
    }

    private static void text() throws Exception {
        String text = Files.readString(Path.of("src/main/java/GrammarSuite.java"));
        String code = text.replaceAll("(?s)/\\*.*?\\*/", "").replaceAll("//[^\n]*", "");
        for (String word : WORDS_NOT_USED) {
            Pattern whole = Pattern.compile("\\b" + word + "\\b");
            due("'" + word + "' is not used", !whole.matcher(code).find());
        }
        for (String line : code.split("\n")) {
            due("nothing but arrays of a constant length is made: " + line.strip(),
                    !line.contains("new ") || line.matches(".* = new [a-z]+\\[([A-Z_]+|\\d+)\\];"));
        }
        due("there is no lambda or method reference", !code.contains("->") && !code.contains("::"));
        due("there is no text", !code.contains("\""));
    }
}
