import java.lang.reflect.Constructor;
import java.lang.reflect.Field;
import java.lang.reflect.Method;
import java.lang.reflect.Modifier;
import java.util.Arrays;
import java.util.Set;
import java.util.TreeSet;

/** The public face is the document's, with nothing beside it. */
public final class FaceTest {
    private static final Set<String> FACE = new TreeSet<>(Arrays.asList(
            "public boolean PuzzleBook.feed(int)",
            "public int PuzzleBook.put(int)",
            "public int PuzzleBook.find(int,int)",
            "public int PuzzleBook.entry(int,int)",
            "public boolean PuzzleBook.drop(int)",
            "public boolean PuzzleBook.crash(int)",
            "public int PuzzleBook.reopen()",
            "public boolean PuzzleBook.poke(int,int,int)",
            "public int PuzzleBook.badAt()",
            "public int PuzzleBook.byteAt(int,int) throws java.lang.ArrayIndexOutOfBoundsException",
            "public int PuzzleBook.free()",
            "public int PuzzleBook.root()"));

    public static void main(String[] args) {
        Check check = new Check("FaceTest");
        int modifiers = PuzzleBook.class.getModifiers();
        check.due("public", Modifier.isPublic(modifiers), true);
        check.due("final", Modifier.isFinal(modifiers), true);
        methods(check);
        constructors(check);
        fields(check);
        for (Class<?> inner : PuzzleBook.class.getDeclaredClasses()) {
            int m = inner.getModifiers();
            check.due(inner + " is static", Modifier.isStatic(m), true);
            check.due(inner + " is hidden", Modifier.isPublic(m) || Modifier.isProtected(m), false);
        }
        check.end();
    }

    private static void methods(Check check) {
        Set<String> found = new TreeSet<>();
        Set<String> names = new TreeSet<>();
        for (Method method : PuzzleBook.class.getDeclaredMethods()) {
            if (!Modifier.isPrivate(method.getModifiers())) {
                found.add(method.toString());
                names.add(method.getName());
            }
        }
        if (!found.equals(FACE)) {
            check.tell("the methods are " + found);
        }
        for (Method method : PuzzleBook.class.getDeclaredMethods()) {
            if (Modifier.isPrivate(method.getModifiers())) {
                check.due(method + " bears a public name", names.contains(method.getName()), false);
            }
        }
    }

    private static void constructors(Check check) {
        Constructor<?>[] made = PuzzleBook.class.getDeclaredConstructors();
        check.due("constructors", made.length, 1);
        if (!made[0].toString().equals("public PuzzleBook(int)")) {
            check.tell("the constructor is " + made[0]);
        }
    }

    private static void fields(Check check) {
        for (Field field : PuzzleBook.class.getDeclaredFields()) {
            int m = field.getModifiers();
            check.due(field + " is private", Modifier.isPrivate(m), true);
            check.due(field + " is fixed if static", !Modifier.isStatic(m) || Modifier.isFinal(m), true);
        }
    }
}
