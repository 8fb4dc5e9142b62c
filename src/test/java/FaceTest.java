import java.lang.reflect.Constructor;
import java.lang.reflect.Field;
import java.lang.reflect.Method;
import java.lang.reflect.Modifier;
import java.util.Set;
import java.util.TreeSet;

/** The public face is that of the document, and no private method bears the name of a public one. */
public final class FaceTest {
    private static final String[] FACE = {
        "int put(int)", "void end(int)", "int read()", "int line()", "int graph(int)", "int gate(int,int)",
        "int output(int)", "int value(int)", "int balance()", "int reduce()", "int rewrite()",
        "int diagram(int,int)", "int differ(int,int)", "int coverFew(int)", "int cover(int)", "int depth()",
        "int cell(int,int)", "int sign(int)", "int library()", "int libraryCell(int,int)", "int map()",
        "int mapped(int)", "int instance(int,int)", "int mappedSign(int)"};

    private static int wrong = 0;

    public static void main(String[] args) {
        Set<String> want = new TreeSet<>(Set.of(FACE));
        Set<String> got = new TreeSet<>();
        Set<String> publicNames = new TreeSet<>();
        for (Method method : CellForge.class.getDeclaredMethods()) {
            if (Modifier.isPublic(method.getModifiers())) {
                got.add(told(method));
                publicNames.add(method.getName());
                due(method + " is no static one", !Modifier.isStatic(method.getModifiers()));
            }
        }
        due("the public methods are " + got, got.equals(want));
        due("the class is public and final", Modifier.isPublic(CellForge.class.getModifiers())
                && Modifier.isFinal(CellForge.class.getModifiers()));
        for (Constructor<?> made : CellForge.class.getDeclaredConstructors()) {
            due("the constructor has no parameters", made.getParameterCount() == 0
                    && Modifier.isPublic(made.getModifiers()));
        }
        lookAtHidden(CellForge.class, publicNames);
        Class<?>[] inside = CellForge.class.getDeclaredClasses();
        due("some twelve classes", inside.length <= 11);
        for (Class<?> part : inside) {
            due(part + " is static", Modifier.isStatic(part.getModifiers()) && !Modifier.isPublic(part.getModifiers()));
            lookAtHidden(part, publicNames);
        }
        System.out.println(wrong == 0 ? "the face is as due" : wrong + " faults of the face");
        System.exit(wrong == 0 ? 0 : 1);
    }

    private static String told(Method method) {
        StringBuilder told = new StringBuilder();
        told.append(method.getReturnType().getName()).append(' ').append(method.getName()).append('(');
        for (int k = 0; k < method.getParameterCount(); k++) {
            told.append(k == 0 ? "" : ",").append(method.getParameterTypes()[k].getName());
        }
        return told.append(')').toString();
    }

    private static void lookAtHidden(Class<?> part, Set<String> publicNames) {
        for (Method method : part.getDeclaredMethods()) {
            boolean isFace = part == CellForge.class && Modifier.isPublic(method.getModifiers());
            due(method + " bears a public name", isFace || !publicNames.contains(method.getName()));
            due(method + " has too many parameters", method.getParameterCount() <= 7);
            due(method + " is visible", isFace || part != CellForge.class || Modifier.isPrivate(method.getModifiers()));
        }
        int fields = 0;
        for (Field field : part.getDeclaredFields()) {
            boolean isStatic = Modifier.isStatic(field.getModifiers());
            due(field + " is static and not final", !isStatic || Modifier.isFinal(field.getModifiers()));
            boolean isNone = part == CellForge.class && field.getName().equals("NONE");
            due(field + " is visible", isNone || part != CellForge.class || Modifier.isPrivate(field.getModifiers()));
            fields += isStatic ? 0 : 1;
        }
        due(part + " has " + fields + " fields", fields <= 21);
    }

    private static void due(String what, boolean holds) {
        if (!holds) {
            wrong++;
            System.out.println(what);
        }
    }
}
