import java.lang.reflect.Constructor;
import java.lang.reflect.Field;
import java.lang.reflect.Method;
import java.lang.reflect.Modifier;
import java.util.Set;
import java.util.TreeSet;

/** The class has the document's public face, and nothing else of it can be seen from outside. */
public final class FaceTest {
    private static final Set<String> FACE = new TreeSet<>(Set.of(
        "public static final int HeightLines.NONE",
        "public HeightLines()",
        "public boolean HeightLines.field(int,int)",
        "public boolean HeightLines.set(int,int,int)",
        "public boolean HeightLines.row(int,int,int)",
        "public boolean HeightLines.height(int)",
        "public int HeightLines.make()",
        "public int HeightLines.size(int)",
        "public boolean HeightLines.isClosed(int)",
        "public int HeightLines.edge(int,int)",
        "public int HeightLines.crossing(int,int) throws java.util.NoSuchElementException",
        "public int HeightLines.within(int)",
        "public int HeightLines.crossed()"));

    public static void main(String[] args) {
        Set<String> seen = new TreeSet<>();
        Set<String> publicNames = new TreeSet<>();
        Set<String> privateNames = new TreeSet<>();
        boolean right = Modifier.toString(HeightLines.class.getModifiers()).equals("public final");
        if (!right) {
            System.out.println("the class is not public and final");
        }
        for (Field field : HeightLines.class.getDeclaredFields()) {
            if (!Modifier.isPrivate(field.getModifiers())) {
                seen.add(field.toString());
            }
            if (Modifier.isStatic(field.getModifiers()) && !Modifier.isFinal(field.getModifiers())) {
                System.out.println("static and not final: " + field);
                right = false;
            }
        }
        for (Constructor<?> constructor : HeightLines.class.getDeclaredConstructors()) {
            seen.add(constructor.toString());
        }
        for (Method method : HeightLines.class.getDeclaredMethods()) {
            boolean hidden = Modifier.isPrivate(method.getModifiers());
            (hidden ? privateNames : publicNames).add(method.getName());
            if (!hidden) {
                seen.add(method.toString());
            }
        }
        privateNames.retainAll(publicNames);
        if (!privateNames.isEmpty()) {
            System.out.println("private methods with names of public ones: " + privateNames);
            right = false;
        }
        if (!seen.equals(FACE)) {
            System.out.println("seen from outside: " + seen + ", due is " + FACE);
            right = false;
        }
        System.out.println(right ? "the face is as due" : "the face is not as due");
        if (!right) {
            System.exit(1);
        }
    }
}
