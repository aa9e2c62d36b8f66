import java.lang.reflect.Field;
import java.lang.reflect.Method;
import java.lang.reflect.Modifier;
import java.util.Set;
import java.util.TreeSet;

/** The public face: exactly the document's constants, constructor and methods, and no other visible member. */
public final class FaceTest {
    private static final Set<String> DUE = Set.of(
            "public static final int AffineAligner.BAD",
            "public static final int AffineAligner.FULL",
            "public AffineAligner()",
            "public int AffineAligner.type(int,int)",
            "public int AffineAligner.wipe(int)",
            "public boolean AffineAligner.rules(int,int,int,int)",
            "public int AffineAligner.best()",
            "public int AffineAligner.ways()",
            "public int AffineAligner.column(int)",
            "public int AffineAligner.columns()",
            "public int AffineAligner.local()",
            "public int AffineAligner.fitted()",
            "public int AffineAligner.overlap()",
            "public boolean AffineAligner.paired(int,int)");

    public static void main(String[] args) {
        Checks checks = new Checks();
        Class<AffineAligner> face = AffineAligner.class;
        Set<String> seen = new TreeSet<>();
        for (Field field : face.getDeclaredFields()) {
            add(seen, field.getModifiers(), field.toString());
        }
        for (Method method : face.getDeclaredMethods()) {
            add(seen, method.getModifiers(), method.toString());
        }
        for (var constructor : face.getDeclaredConstructors()) {
            add(seen, constructor.getModifiers(), constructor.toString());
        }
        for (String member : DUE) {
            checks.due("the class has " + member, seen.contains(member), true);
        }
        for (String member : seen) {
            checks.due("the document has " + member, DUE.contains(member), true);
        }
        checks.due("the class is public", Modifier.isPublic(face.getModifiers()), true);
        checks.due("the class is final", Modifier.isFinal(face.getModifiers()), true);
        checks.due("BAD", AffineAligner.BAD, -1000);
        checks.due("FULL", AffineAligner.FULL, -1001);
        checks.end();
    }

    private static void add(Set<String> seen, int modifiers, String member) {
        if (!Modifier.isPrivate(modifiers)) {
            seen.add(member);
        }
    }
}
