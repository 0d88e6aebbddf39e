import java.lang.reflect.Constructor;
import java.lang.reflect.Field;
import java.lang.reflect.Member;
import java.lang.reflect.Method;
import java.lang.reflect.Modifier;
import java.nio.file.Files;
import java.nio.file.Path;
import java.util.Set;
import java.util.TreeSet;

/** The class has the document's public face, and nothing else that can be seen from outside. */
public final class FaceTest {
    static int wrong = 0;

    static void fail(String what) {
        wrong++;
        System.out.println(what);
    }

    /** The signatures that stand in the document, as "int sign(int)". */
    static Set<String> faceOfDocument() throws Exception {
        Set<String> face = new TreeSet<>();
        for (String line : Files.readAllLines(Path.of("../shared/DOC.md"))) {
            String part = line.trim();
            if (!part.startsWith("public ") || !part.endsWith(";") || !part.contains("(")) {
                continue;
            }
            part = part.substring("public ".length(), part.indexOf(')') + 1);
            String inside = part.substring(part.indexOf('(') + 1, part.length() - 1);
            StringBuilder types = new StringBuilder();
            for (String parameter : inside.isEmpty() ? new String[0] : inside.split(", ")) {
                types.append(types.length() > 0 ? ", " : "").append(parameter.split(" ")[0]);
            }
            face.add(part.substring(0, part.indexOf('(')) + "(" + types + ")");
        }
        return face;
    }

    static String types(Class<?>[] parameters) {
        StringBuilder types = new StringBuilder();
        for (Class<?> parameter : parameters) {
            types.append(types.length() > 0 ? ", " : "").append(parameter.getSimpleName());
        }
        return "(" + types + ")";
    }

    static boolean isSeen(Member member) {
        return !Modifier.isPrivate(member.getModifiers()) && !member.isSynthetic();
    }

    public static void main(String[] args) throws Exception {
        Class<?> type = NinetyLamps.class;
        Set<String> seen = new TreeSet<>();
        Set<String> names = new TreeSet<>();
        for (Method method : type.getDeclaredMethods()) {
            if (isSeen(method)) {
                names.add(method.getName());
                seen.add(method.getReturnType().getSimpleName() + " " + method.getName() + types(method.getParameterTypes()));
                if (!Modifier.isPublic(method.getModifiers()) || Modifier.isStatic(method.getModifiers())) {
                    fail("not public, or static: " + method);
                }
            }
        }
        for (Method method : type.getDeclaredMethods()) {
            if (!isSeen(method) && names.contains(method.getName())) {
                fail("bears the name of a public one: " + method);
            }
        }
        for (Constructor<?> constructor : type.getDeclaredConstructors()) {
            if (isSeen(constructor)) {
                seen.add("NinetyLamps" + types(constructor.getParameterTypes()));
            }
        }
        if (!seen.equals(faceOfDocument()) || seen.size() != 49) {
            fail("the face is not the document's: " + seen);
        }
        for (Field field : type.getDeclaredFields()) {
            if (isSeen(field) && !field.getName().equals("NONE")) {
                fail("a field that is seen: " + field);
            }
        }
        if (NinetyLamps.NONE != -1 || !Modifier.isFinal(type.getModifiers())) {
            fail("NONE, or the class is not final");
        }
        for (Class<?> inner : type.getDeclaredClasses()) {
            if (!Modifier.isStatic(inner.getModifiers())) {
                fail("not static: " + inner);
            }
            for (Method method : inner.getDeclaredMethods()) {
                if (names.contains(method.getName())) {
                    fail("bears the name of a public one: " + method);
                }
            }
        }
        System.out.println(wrong == 0 ? "the face is as due" : "the face is not as due");
        System.exit(wrong == 0 ? 0 : 1);
    }
}
