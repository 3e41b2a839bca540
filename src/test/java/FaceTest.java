import java.lang.reflect.Constructor;
import java.lang.reflect.Field;
import java.lang.reflect.Method;
import java.lang.reflect.Modifier;
import java.util.Set;
import java.util.TreeSet;

/** The class has the public face of the document, and nothing else of it can be seen. */
public final class FaceTest {
    private static final Set<String> FACE = Set.of(
            "public static final int RoleParts.NONE",
            "public static final int RoleParts.BAD",
            "public RoleParts()",
            "public boolean RoleParts.type(char)",
            "public int RoleParts.define()",
            "public int RoleParts.messages()",
            "public int RoleParts.length(int)",
            "public int RoleParts.charAt(int,int)",
            "public boolean RoleParts.begin()",
            "public int RoleParts.act(int)",
            "public int RoleParts.partner(int)",
            "public boolean RoleParts.offers(int,int)",
            "public boolean RoleParts.send(int,int)",
            "public int RoleParts.receive(int)",
            "public int RoleParts.onTheWay(int,int)",
            "public int RoleParts.labelAt(int,int,int)",
            "public int RoleParts.moves()",
            "public int RoleParts.ready()",
            "public boolean RoleParts.over()");

    public static void main(String[] args) {
        Set<String> seen = new TreeSet<>();
        for (Field field : RoleParts.class.getDeclaredFields()) {
            add(seen, field.getModifiers(), field.isSynthetic(), field.toGenericString());
        }
        for (Constructor<?> constructor : RoleParts.class.getDeclaredConstructors()) {
            add(seen, constructor.getModifiers(), constructor.isSynthetic(), constructor.toGenericString());
        }
        for (Method method : RoleParts.class.getDeclaredMethods()) {
            add(seen, method.getModifiers(), method.isSynthetic(), method.toGenericString());
        }
        Set<String> missing = new TreeSet<>(FACE);
        missing.removeAll(seen);
        seen.removeAll(FACE);
        missing.forEach(member -> System.out.println("missing: " + member));
        seen.forEach(member -> System.out.println("not in the document: " + member));
        int modifiers = RoleParts.class.getModifiers();
        boolean isOpen = !Modifier.isPublic(modifiers) || !Modifier.isFinal(modifiers);
        if (isOpen) {
            System.out.println("the class is not public and final");
        }
        if (isOpen || !missing.isEmpty() || !seen.isEmpty()) {
            System.exit(1);
        }
        System.out.println("the face is as due");
    }

    private static void add(Set<String> seen, int modifiers, boolean isSynthetic, String member) {
        if (!Modifier.isPrivate(modifiers) && !isSynthetic) {
            seen.add(member);
        }
    }
}
