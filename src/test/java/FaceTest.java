import java.io.IOException;
import java.lang.reflect.Constructor;
import java.lang.reflect.Field;
import java.lang.reflect.Method;
import java.lang.reflect.Modifier;
import java.nio.charset.StandardCharsets;
import java.nio.file.Files;
import java.nio.file.Path;
import java.util.Arrays;
import java.util.Set;
import java.util.TreeSet;

/** The class has the document's face and no other, and its text keeps to LANGUAGE.md. */
public final class FaceTest {
    private static final String[] METHODS = {
        "int letter(int)", "int blank()", "int fault()", "int court()", "int amend()",
        "int lawFault()", "int statute(int)", "int holds(int)", "int judge(int,int)",
        "int as(int,int)", "long ways(int)", "int says(int,int)", "int odds(int,int)",
        "int ask(int,int,int)", "int learn(int,int,int)", "int adjourn(int)",
        "int find(int,int,int)", "int bench()", "int see(int,int,int,int)", "int forget()",
        "int assizes(int,int,int)", "int image()", "int restore()", "int count(int)",
        "long digest()"
    };
    private static final String[] CONSTANTS = {"NONE=-1", "UNKNOWN=-101", "OUTSIDE=-102", "STATE=-103", "FULL=-104"};
    private static final String[] BANNED = {
        "throw", "try", "catch", "finally", "synchronized", "assert", "import", "package",
        "static {", "->", "::", "System.", "Object", "Exact("
    };

    private static int wrong = 0;

    private static void check(boolean holds, String what) {
        if (!holds) {
            wrong++;
            System.out.println("not so: " + what);
        }
    }

    public static void main(String[] args) throws IOException, IllegalAccessException {
        members();
        nested();
        text();
        System.out.println(wrong == 0 ? "the face is as due" : wrong + " things are not as due");
        if (wrong != 0) {
            System.exit(1);
        }
    }

    private static void members() throws IllegalAccessException {
        Set<String> methods = new TreeSet<>();
        Set<String> publicNames = new TreeSet<>();
        for (Method method : AccusedAsks.class.getDeclaredMethods()) {
            if (!Modifier.isPrivate(method.getModifiers()) && !method.isSynthetic()) {
                check(Modifier.isPublic(method.getModifiers()), "public or private: " + method);
                String types = Arrays.toString(method.getParameterTypes()).replaceAll("[\\[\\] ]", "");
                methods.add(method.getReturnType() + " " + method.getName() + "(" + types + ")");
                publicNames.add(method.getName());
            }
        }
        check(methods.equals(new TreeSet<>(Arrays.asList(METHODS))), "the methods are " + methods);
        for (Method method : AccusedAsks.class.getDeclaredMethods()) {
            boolean hidden = Modifier.isPrivate(method.getModifiers());
            check(!hidden || !publicNames.contains(method.getName()), "a name of its own: " + method);
            check(method.getParameterCount() <= 7, "seven parameters at most: " + method);
        }
        Set<String> constants = new TreeSet<>();
        for (Field field : AccusedAsks.class.getDeclaredFields()) {
            boolean fixed = Modifier.isStatic(field.getModifiers()) && Modifier.isFinal(field.getModifiers());
            check(fixed || !Modifier.isStatic(field.getModifiers()), "static fields are final: " + field);
            if (!Modifier.isPrivate(field.getModifiers())) {
                constants.add(field.getName() + "=" + (fixed ? field.getInt(null) : "?"));
            }
        }
        check(constants.equals(new TreeSet<>(Arrays.asList(CONSTANTS))), "the constants are " + constants);
        Constructor<?>[] constructors = AccusedAsks.class.getDeclaredConstructors();
        check(constructors.length == 1 && constructors[0].getParameterCount() == 0
            && Modifier.isPublic(constructors[0].getModifiers()), "one constructor");
        check(Modifier.isFinal(AccusedAsks.class.getModifiers()), "the class is final");
    }

    private static void nested() {
        Class<?>[] classes = AccusedAsks.class.getDeclaredClasses();
        check(classes.length <= 12, "twelve classes at most");
        for (Class<?> one : classes) {
            check(Modifier.isStatic(one.getModifiers()), "static: " + one);
            check(!Modifier.isPublic(one.getModifiers()), "not public: " + one);
        }
    }

    private static void text() throws IOException {
        byte[] bytes = Files.readAllBytes(Path.of("src/main/java/AccusedAsks.java"));
        for (byte one : bytes) {
            check(one > 0, "signs of 1 to 127 alone");
        }
        String text = new String(bytes, StandardCharsets.US_ASCII);
        String code = text.replaceAll("(?s)/\\*.*?\\*/", "").replaceAll("//[^\n]*", "");
        for (String word : BANNED) {
            String start = Character.isLetter(word.charAt(0)) ? "\\b" : "";
            String end = Character.isLetter(word.charAt(word.length() - 1)) ? "\\b" : "";
            boolean there = java.util.regex.Pattern.compile(start + java.util.regex.Pattern.quote(word) + end)
                .matcher(code).find();
            check(!there, "no '" + word + "' in the class");
        }
    }
}
