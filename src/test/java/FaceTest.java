import java.lang.reflect.Constructor;
import java.lang.reflect.Field;
import java.lang.reflect.Method;
import java.lang.reflect.Modifier;
import java.util.Set;
import java.util.TreeSet;

/** The public face: the document's constants, constructor and methods, and nothing else that isn't private. */
final class FaceTest {
    public static void main(String[] args) {
        constantsHaveTheirValues();
        classIsPublicAndFinal();
        membersAreTheDocuments();
        Check.end();
    }

    private static void constantsHaveTheirValues() {
        Check.same("BAD_EQUATION", ModSolver.BAD_EQUATION, -1);
        Check.same("BAD_UNKNOWN", ModSolver.BAD_UNKNOWN, -2);
        Check.same("FULL", ModSolver.FULL, -3);
        Check.same("NONE", ModSolver.NONE, -4);
    }

    private static void classIsPublicAndFinal() {
        int modifiers = ModSolver.class.getModifiers();
        Check.same("public class", Modifier.isPublic(modifiers), true);
        Check.same("final class", Modifier.isFinal(modifiers), true);
        Check.same("nested classes", ModSolver.class.getDeclaredClasses().length, 0);
    }

    private static void membersAreTheDocuments() {
        Set<String> want = Set.of(
            "public static final int ModSolver.BAD_EQUATION",
            "public static final int ModSolver.BAD_UNKNOWN",
            "public static final int ModSolver.FULL",
            "public static final int ModSolver.NONE",
            "public ModSolver()",
            "public int ModSolver.add(int)",
            "public int ModSolver.set(int,int,int)",
            "public int ModSolver.turn(int,boolean)",
            "public int ModSolver.drop()",
            "public int ModSolver.solutions()",
            "public int ModSolver.value(int,int)",
            "public int ModSolver.possible(int)",
            "public boolean ModSolver.fixed(int)",
            "public int ModSolver.rank(int)",
            "public boolean ModSolver.follows(int)",
            "public int ModSolver.needed()");
        Check.same("the face", visibleMembers(), new TreeSet<>(want));
    }

    private static Set<String> visibleMembers() {
        Set<String> seen = new TreeSet<>();
        for (Field field : ModSolver.class.getDeclaredFields()) {
            addVisible(seen, field.getModifiers(), field.toString());
        }
        for (Constructor<?> constructor : ModSolver.class.getDeclaredConstructors()) {
            addVisible(seen, constructor.getModifiers(), constructor.toString());
        }
        for (Method method : ModSolver.class.getDeclaredMethods()) {
            addVisible(seen, method.getModifiers(), method.toString());
        }
        return seen;
    }

    private static void addVisible(Set<String> seen, int modifiers, String member) {
        if (!Modifier.isPrivate(modifiers)) {
            seen.add(member);
        }
    }
}
