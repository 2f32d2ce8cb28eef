import java.lang.reflect.Constructor;
import java.lang.reflect.Field;
import java.lang.reflect.Member;
import java.lang.reflect.Method;
import java.lang.reflect.Modifier;
import java.util.Arrays;
import java.util.Set;
import java.util.TreeSet;

/** The public face: the constructor and methods of the document, and nothing else that can be seen. */
public final class FaceTest {
    private static final Check CHECK = new Check();
    private static final String[] FACE = {"int glyph(int)", "int contour()", "int point(int, int, boolean)",
        "int table(int, long, int)", "void clear()", "int pack()", "int plain()", "int read()", "int stage()",
        "int put(long, int)", "void set(int, int)", "void cut(int)", "int at(int)", "int count(int)",
        "int outline(int, int, int)"};

    public static void main(String[] args) {
        Class<?> face = FontPacker.class;
        CHECK.due("public and final", face.getModifiers(), Modifier.PUBLIC | Modifier.FINAL);
        Set<String> seen = new TreeSet<>();
        Set<String> names = new TreeSet<>();
        for (Method method : face.getDeclaredMethods()) {
            if (!Modifier.isPrivate(method.getModifiers())) {
                CHECK.due(method + " is public alone", method.getModifiers(), Modifier.PUBLIC);
                seen.add(textOf(method));
                names.add(method.getName());
            }
        }
        CHECK.due("methods " + seen, seen.equals(new TreeSet<>(Arrays.asList(FACE))) ? 1 : 0, 1);
        for (Method method : face.getDeclaredMethods()) {
            boolean hidden = Modifier.isPrivate(method.getModifiers());
            CHECK.due(method + " has a name of its own", hidden && names.contains(method.getName()) ? 1 : 0, 0);
        }
        for (Field field : face.getDeclaredFields()) {
            hidden(field);
        }
        for (Constructor<?> constructor : face.getDeclaredConstructors()) {
            CHECK.due("constructor's parameters", constructor.getParameterCount(), 0);
            CHECK.due("constructor is public", constructor.getModifiers(), Modifier.PUBLIC);
        }
        for (Class<?> inside : face.getDeclaredClasses()) {
            CHECK.due(inside + " is static", inside.getModifiers() & Modifier.STATIC, Modifier.STATIC);
            CHECK.due(inside + " is not shown",
                    inside.getModifiers() & (Modifier.PUBLIC | Modifier.PROTECTED), 0);
        }
        CHECK.finish();
    }

    private static void hidden(Member member) {
        CHECK.due(member + " is private", member.getModifiers() & Modifier.PRIVATE, Modifier.PRIVATE);
        boolean isStatic = Modifier.isStatic(member.getModifiers());
        CHECK.due(member + " is not static state", isStatic && !Modifier.isFinal(member.getModifiers()) ? 1 : 0, 0);
    }

    private static String textOf(Method method) {
        StringBuilder text = new StringBuilder(method.getReturnType() + " " + method.getName() + "(");
        String between = "";
        for (Class<?> type : method.getParameterTypes()) {
            text.append(between).append(type);
            between = ", ";
        }
        return text.append(")").toString();
    }
}
