import java.lang.reflect.Constructor;
import java.lang.reflect.Field;
import java.lang.reflect.Method;
import java.lang.reflect.Modifier;
import java.util.ArrayList;
import java.util.List;
import java.util.TreeSet;

/** The class has the document's face, and shows nothing else. */
final class FaceTest {
    private static final String FACE = """
            int act(int,int,int)
            int allIn(int)
            int book(int)
            int capitals()
            int chain(int,int)
            int count(int)
            int far(int,int)
            int feed(int)
            int gets(int)
            int gone(int,int,int)
            int image()
            int item(int,int,long)
            int judge(int,int)
            int land()
            int longest(int)
            int looked(int)
            int lost(int)
            int name(int,int)
            int newRoad(int,int)
            int next(int,int)
            int of(int,int)
            int place(int,int,int)
            int put(int)
            int road(int,int,int)
            int shift(int,int,int,int,int)
            int strike(int,int)
            int taken(int,int)
            int tape(int,int,int)
            int told(int)
            int toward(int,int)
            int trace(int)
            int traveller(int,int,int)
            int turned(int,int)
            int undo()
            int way(int,int)
            int worst(int)
            long mean(int)
            long odds(int,int,int,int)
            long read(int,int)
            """;

    private FaceTest() {
    }

    public static void main(String[] args) throws Exception {
        List<String> shown = new ArrayList<>();
        TreeSet<String> open = new TreeSet<>();
        for (Method m : NamesBack.class.getDeclaredMethods()) {
            if (Modifier.isPublic(m.getModifiers())) {
                List<String> types = new ArrayList<>();
                for (Class<?> type : m.getParameterTypes()) {
                    types.add(type.getName());
                }
                shown.add(m.getReturnType().getName() + " " + m.getName() + "(" + String.join(",", types) + ")");
                open.add(m.getName());
            }
        }
        shown.sort(null);
        Check.holds("the public methods are " + shown, shown.equals(FACE.lines().toList()));
        constants();
        onlyPrivate(NamesBack.class, open);
        Check.end("FaceTest");
    }

    private static void constants() throws Exception {
        int fields = 0;
        for (Field f : NamesBack.class.getDeclaredFields()) {
            fields += Modifier.isPublic(f.getModifiers()) ? 1 : 0;
        }
        Check.due("public fields", fields, 5);
        Check.due("NONE", NamesBack.NONE, -1);
        Check.due("BAD", NamesBack.BAD, -2);
        Check.due("STATE", NamesBack.STATE, -3);
        Check.due("FULL", NamesBack.FULL, -4);
        Check.due("NO", NamesBack.NO, Long.MIN_VALUE);
        Check.holds("public and final", Modifier.isPublic(NamesBack.class.getModifiers())
                && Modifier.isFinal(NamesBack.class.getModifiers()));
        Constructor<?>[] made = NamesBack.class.getDeclaredConstructors();
        Check.holds("one public constructor without arguments", made.length == 1
                && Modifier.isPublic(made[0].getModifiers()) && made[0].getParameterCount() == 0);
    }

    /** No other member can be seen; no private method, also inside, bears a public one's name. */
    private static void onlyPrivate(Class<?> c, TreeSet<String> open) {
        for (Method m : c.getDeclaredMethods()) {
            boolean face = c == NamesBack.class && Modifier.isPublic(m.getModifiers());
            Check.holds(m + " is private", face || Modifier.isPrivate(m.getModifiers()));
            Check.holds(m + " has a name of its own", face || !open.contains(m.getName()));
            Check.holds(m + " takes seven at most", m.getParameterCount() <= 7);
        }
        int own = 0;
        for (Field f : c.getDeclaredFields()) {
            boolean face = c == NamesBack.class && Modifier.isPublic(f.getModifiers());
            Check.holds(f + " is private", face || Modifier.isPrivate(f.getModifiers()));
            boolean isStatic = Modifier.isStatic(f.getModifiers());
            Check.holds(f + " is final if static", !isStatic || Modifier.isFinal(f.getModifiers()));
            own += isStatic ? 0 : 1;
        }
        Check.holds(c + " has some twenty fields", own <= 20);
        for (Class<?> inner : c.getDeclaredClasses()) {
            Check.holds(inner + " is static", Modifier.isStatic(inner.getModifiers()));
            onlyPrivate(inner, open);
        }
    }
}
