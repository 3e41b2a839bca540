import java.lang.reflect.Constructor;
import java.lang.reflect.Field;
import java.lang.reflect.Method;
import java.lang.reflect.Modifier;
import java.util.Set;
import java.util.TreeSet;

/**
 * The class has the public face of the document, and nothing else of it can be seen; what is inside
 * keeps to rule 1 of the language.
 */
public final class FaceTest {
    private static final Set<String> FACE = Set.of(
            "public static final int RoleParts.NONE",
            "public static final int RoleParts.BAD",
            "public RoleParts()",
            "public boolean RoleParts.type(char)",
            "public int RoleParts.define()",
            "public int RoleParts.messages()",
            "public int RoleParts.length(int)",
            "public int RoleParts.charAt(int,int)",
            "public boolean RoleParts.begin()",
            "public int RoleParts.act(int)",
            "public int RoleParts.partner(int)",
            "public boolean RoleParts.offers(int,int)",
            "public boolean RoleParts.send(int,int)",
            "public int RoleParts.receive(int)",
            "public int RoleParts.onTheWay(int,int)",
            "public int RoleParts.labelAt(int,int,int)",
            "public int RoleParts.moves()",
            "public int RoleParts.ready()",
            "public boolean RoleParts.over()");

    private static boolean isWrong = false;

    public static void main(String[] args) {
        checkFace();
        checkPrivateMethods();
        checkClassesInside();
        int modifiers = RoleParts.class.getModifiers();
        if (!Modifier.isPublic(modifiers) || !Modifier.isFinal(modifiers)) {
            tell("The public face: the class is not public and final");
        }
        if (isWrong) {
            System.exit(1);
        }
        System.out.println("the face is as due");
    }

    private static void checkFace() {
        Set<String> seen = new TreeSet<>();
        for (Field field : RoleParts.class.getDeclaredFields()) {
            add(seen, field.getModifiers(), field.isSynthetic(), field.toGenericString());
        }
        for (Constructor<?> constructor : RoleParts.class.getDeclaredConstructors()) {
            add(seen, constructor.getModifiers(), constructor.isSynthetic(), constructor.toGenericString());
        }
        for (Method method : RoleParts.class.getDeclaredMethods()) {
            add(seen, method.getModifiers(), method.isSynthetic(), method.toGenericString());
        }
        Set<String> missing = new TreeSet<>(FACE);
        missing.removeAll(seen);
        seen.removeAll(FACE);
        missing.forEach(member -> tell("The public face: missing is " + member));
        seen.forEach(member -> tell("The public face: not in the document is " + member));
        if (RoleParts.NONE != -1 || RoleParts.BAD != -2) {
            tell("The public face: NONE is " + RoleParts.NONE + " and BAD is " + RoleParts.BAD);
        }
    }

    private static void checkPrivateMethods() {
        Set<String> publicNames = new TreeSet<>();
        for (Method method : RoleParts.class.getDeclaredMethods()) {
            if (Modifier.isPublic(method.getModifiers())) {
                publicNames.add(method.getName());
            }
        }
        for (Method method : RoleParts.class.getDeclaredMethods()) {
            if (Modifier.isPrivate(method.getModifiers()) && publicNames.contains(method.getName())) {
                tell("Rule 1, \"No private method bears the name of a public one\": " + method);
            }
        }
    }

    private static void checkClassesInside() {
        for (Class<?> inside : RoleParts.class.getDeclaredClasses()) {
            int modifiers = inside.getModifiers();
            boolean isSeen = Modifier.isPublic(modifiers) || Modifier.isProtected(modifiers);
            if (isSeen || !Modifier.isStatic(modifiers)) {
                tell("Rule 1, \"private or package-visible and static\": " + inside);
            }
        }
    }

    private static void tell(String what) {
        isWrong = true;
        System.out.println(what);
    }

    private static void add(Set<String> seen, int modifiers, boolean isSynthetic, String member) {
        if (!Modifier.isPrivate(modifiers) && !isSynthetic) {
            seen.add(member);
        }
    }
}
