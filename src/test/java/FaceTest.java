import java.lang.reflect.Constructor;
import java.lang.reflect.Field;
import java.lang.reflect.Method;
import java.lang.reflect.Modifier;
import java.util.Set;
import java.util.TreeSet;

/** The public face is the document's one, and there is nothing visible beside it. */
public final class FaceTest {
    public static void main(String[] args) {
        Class<TileRenderer> face = TileRenderer.class;
        Check.isTrue("public final class", Modifier.isPublic(face.getModifiers()) && Modifier.isFinal(face.getModifiers()));
        Check.same("nested classes", face.getDeclaredClasses().length, 0);
        constructors(face);
        methods(face);
        fields(face);
        Check.end();
    }

    private static void constructors(Class<TileRenderer> face) {
        Constructor<?>[] all = face.getDeclaredConstructors();
        Check.same("constructors", all.length, 1);
        Check.isTrue("public constructor without parameters",
            Modifier.isPublic(all[0].getModifiers()) && all[0].getParameterCount() == 0);
    }

    private static void methods(Class<TileRenderer> face) {
        Set<String> due = new TreeSet<>(Set.of("int corner 4", "int aim 3", "int cell 3", "int grab 2", "int window 1",
            "int rule 2", "int draw 1", "int clear 3", "void reset 0", "int colour 2", "int depth 2", "int mark 2",
            "int digest 0", "int hits 0", "int covered 1"));
        Set<String> names = new TreeSet<>();
        for (String d : due) {
            names.add(d.split(" ")[1]);
        }
        Set<String> found = new TreeSet<>();
        for (Method m : face.getDeclaredMethods()) {
            for (Class<?> type : m.getParameterTypes()) {
                Check.isTrue(m + " takes ints or private arrays",
                    type == int.class || Modifier.isPrivate(m.getModifiers()));
            }
            Check.isTrue(m + " takes at most seven", m.getParameterCount() <= 7);
            if (Modifier.isPrivate(m.getModifiers())) {
                Check.isTrue(m + " bears a name of its own", !names.contains(m.getName()));
            } else {
                Check.isTrue(m + " is public and not static",
                    Modifier.isPublic(m.getModifiers()) && !Modifier.isStatic(m.getModifiers()));
                found.add(m.getReturnType() + " " + m.getName() + " " + m.getParameterCount());
            }
        }
        Check.isTrue("the methods are " + due + ", found " + found, found.equals(due));
    }

    private static void fields(Class<TileRenderer> face) {
        int kept = 0;
        for (Field f : face.getDeclaredFields()) {
            if (f.getName().equals("BAD")) {
                Check.same("BAD's modifiers", f.getModifiers(), Modifier.PUBLIC | Modifier.STATIC | Modifier.FINAL);
                continue;
            }
            Check.isTrue(f + " is private", Modifier.isPrivate(f.getModifiers()));
            if (Modifier.isStatic(f.getModifiers())) {
                Check.isTrue(f + " is a constant number", Modifier.isFinal(f.getModifiers())
                    && (f.getType() == int.class || f.getType() == long.class));
            } else {
                kept++;
            }
        }
        Check.isTrue("at most forty fields", kept <= 40);
    }
}
