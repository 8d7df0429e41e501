import java.lang.reflect.Constructor;
import java.lang.reflect.Field;
import java.lang.reflect.Method;
import java.lang.reflect.Modifier;
import java.util.Set;
import java.util.TreeSet;

/** The public face: every constant, the constructor and every method of the document, and no other. */
public final class FaceTest {
    private static final Set<String> FACE = Set.of(
        "public static final int BAD_CELL = -1",
        "public static final int BAD_VALUE = -2",
        "public static final int BAD_PLACE = -3",
        "public static final int LEFT = 0",
        "public static final int RIGHT = 1",
        "public static final int TOP = 2",
        "public static final int BOTTOM = 3",
        "public static final int NONE = 0",
        "public static final int LESS = 1",
        "public static final int MORE = 2",
        "public SkyscraperGrid()",
        "public int SkyscraperGrid.given(int,int,int)",
        "public int SkyscraperGrid.clue(int,int,int)",
        "public int SkyscraperGrid.sign(int,int,boolean,int)",
        "public void SkyscraperGrid.clear()",
        "public int SkyscraperGrid.solutions()",
        "public int SkyscraperGrid.possible(int,int)",
        "public int SkyscraperGrid.height(int,int,int)",
        "public int SkyscraperGrid.votes(int,int,int)",
        "public int SkyscraperGrid.fixedCells()");

    public static void main(String[] args) throws IllegalAccessException {
        Class<?> c = SkyscraperGrid.class;
        Set<String> found = new TreeSet<>();
        Set<String> privateNames = new TreeSet<>();
        Set<String> publicNames = new TreeSet<>();
        for (Field f : c.getDeclaredFields()) {
            if (!Modifier.isPrivate(f.getModifiers())) {
                found.add(Modifier.toString(f.getModifiers()) + " " + f.getType() + " " + f.getName() + " = " + f.get(null));
            }
        }
        for (Constructor<?> k : c.getDeclaredConstructors()) {
            found.add(k.toString());
        }
        for (Method m : c.getDeclaredMethods()) {
            if (Modifier.isPrivate(m.getModifiers())) {
                privateNames.add(m.getName());
            } else {
                publicNames.add(m.getName());
                found.add(m.toString());
            }
            Check.holds("at most seven parameters: " + m.getName(), m.getParameterCount() <= 7);
        }
        for (String member : FACE) {
            Check.holds("the class has " + member, found.contains(member));
        }
        for (String member : found) {
            Check.holds("the document has " + member, FACE.contains(member));
        }
        for (String name : privateNames) {
            Check.holds("no private method bears the public name " + name, !publicNames.contains(name));
        }
        Check.holds("the class is public and final", c.getModifiers() == (Modifier.PUBLIC | Modifier.FINAL));
        Check.holds("it extends nothing", c.getSuperclass() == Object.class && c.getInterfaces().length == 0);
        Check.holds("it nests nothing", c.getDeclaredClasses().length == 0);
        Check.end();
    }
}
