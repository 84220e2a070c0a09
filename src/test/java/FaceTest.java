import java.io.IOException;
import java.lang.reflect.Constructor;
import java.lang.reflect.Field;
import java.lang.reflect.Method;
import java.lang.reflect.Modifier;
import java.nio.charset.StandardCharsets;
import java.nio.file.Files;
import java.nio.file.Path;
import java.util.HashMap;
import java.util.Map;
import java.util.regex.Matcher;
import java.util.regex.Pattern;

/** The public face, and those rules of LANGUAGE.md that can be seen in the class or its source. */
public final class FaceTest {

    /** How many ints each method of the face takes, in the order of ModelTest.NAMES. */
    private static final int[] INTS = {1, 2, 3, 2, 1, 1, 1, 0, 1, 1, 2, 0, 1, 0, 0, 0, 0, 0, 0, 1, 1, 0, 0, 2, 2, 1, 1, 2, 2,
        1, 1, 1, 2, 0, 0, 2, 2, 3, 3, 5, 1, 1, 0, 0, 0, 1, 1};

    private static final String[] BANNED = {"\\bthrow\\b", "\\btry\\b", "\\bcatch\\b", "\\bsynchronized\\b", "\\bassert\\b",
        "->", "::", "Exact\\b", "\\bpackage\\b", "\\bprotected\\b", "static\\s*\\{", "\\bThread\\b", "\\bRandom\\b",
        "\\bSystem\\.(?!arraycopy\\b)", "\\bequals\\b", "\\bhashCode\\b", "\\btoString\\b", "\\bMath\\.random\\b",
        "\\b(Integer|Long|Math)\\.\\w+\\b(?!\\()", "(?<!util\\.)\\bArrays\\.(?!(copyOf|copyOfRange|fill)\\()",
        "\\b(Character|Byte|Short|Boolean|Objects|Collections|Optional|Scanner)\\b"};

    public static void main(String[] args) throws IOException {
        Class<?> c = GlassWords.class;
        Due.isTrue("public and final", Modifier.isPublic(c.getModifiers()) && Modifier.isFinal(c.getModifiers()));
        face(c);
        members(c);
        for (Class<?> inside : c.getDeclaredClasses()) {
            insideClass(inside);
        }
        Due.isTrue("at most twelve classes", c.getDeclaredClasses().length < 12);
        source(Files.readString(Path.of(args.length > 0 ? args[0] : ".", "src/main/java/GlassWords.java"),
            StandardCharsets.UTF_8));
        Due.end();
    }

    private static void face(Class<?> c) {
        Map<String, Method> methods = new HashMap<>();
        int open = 0;
        for (Method m : c.getDeclaredMethods()) {
            if (Modifier.isPublic(m.getModifiers())) {
                methods.put(m.getName(), m);
                open++;
            }
        }
        Due.due("public methods", open, ModelTest.NAMES.length);
        for (int i = 0; i < INTS.length; i++) {
            Method m = methods.get(ModelTest.NAMES[i]);
            Due.isTrue(ModelTest.NAMES[i] + " is there", m != null);
            if (m != null) {
                Due.due("parameters of " + m.getName(), m.getParameterCount(), INTS[i]);
                Due.isTrue("what " + m.getName() + " answers",
                    m.getReturnType() == (m.getName().equals("stays") ? long.class : int.class));
                Due.isTrue(m.getName() + " is no static one", !Modifier.isStatic(m.getModifiers()));
                for (Class<?> p : m.getParameterTypes()) {
                    Due.isTrue("a parameter of " + m.getName(), p == int.class);
                }
            }
        }
    }

    private static void members(Class<?> c) {
        for (Constructor<?> k : c.getDeclaredConstructors()) {
            Due.isTrue("the constructor", Modifier.isPublic(k.getModifiers()) && k.getParameterCount() == 0);
        }
        for (Field f : c.getDeclaredFields()) {
            Due.isTrue("field " + f.getName() + " is private", Modifier.isPrivate(f.getModifiers()));
        }
        for (Method m : c.getDeclaredMethods()) {
            boolean open = Modifier.isPublic(m.getModifiers());
            Due.isTrue(m.getName() + " is public or private", open || Modifier.isPrivate(m.getModifiers()));
            Due.isTrue(m.getName() + " bears a public one's name", open || !isOfFace(m.getName()));
        }
    }

    private static void insideClass(Class<?> c) {
        int m = c.getModifiers();
        Due.isTrue(c + " is static", Modifier.isStatic(m) && !Modifier.isPublic(m) && !Modifier.isProtected(m));
        int fields = 0;
        for (Field f : c.getDeclaredFields()) {
            boolean isStatic = Modifier.isStatic(f.getModifiers());
            Due.isTrue(f + ", being static, is final", !isStatic || Modifier.isFinal(f.getModifiers()));
            fields += isStatic ? 0 : 1;
        }
        Due.isTrue(c + " has some twenty fields", fields <= 20);
        for (Method method : c.getDeclaredMethods()) {
            Due.isTrue(method + " bears a public one's name", !isOfFace(method.getName()));
            Due.isTrue(method + " takes at most seven", method.getParameterCount() <= 7);
        }
    }

    private static boolean isOfFace(String name) {
        for (String n : ModelTest.NAMES) {
            if (n.equals(name)) {
                return true;
            }
        }
        return false;
    }

    private static void source(String text) {
        String code = text.replaceAll("(?s)/\\*.*?\\*/", " ").replaceAll("//[^\n]*", " ").replaceAll("\"[^\"\n]*\"", "\"\"");
        for (String banned : BANNED) {
            Due.isTrue("no " + banned, !Pattern.compile(banned).matcher(code).find());
        }
        Matcher imports = Pattern.compile("import\\s+([\\w.*]+)\\s*;").matcher(code);
        while (imports.find()) {
            Due.isTrue("import of " + imports.group(1), imports.group(1).matches("java\\.util\\.(Arrays|ArrayList|List)"));
        }
    }
}
