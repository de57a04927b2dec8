import java.lang.reflect.Constructor;
import java.lang.reflect.Field;
import java.lang.reflect.Method;
import java.lang.reflect.Modifier;
import java.util.Arrays;
import java.util.TreeSet;

/** The public face: what the document lists, and nothing else that is not private. */
public final class FaceTest {
    private static final String METHODS = "int type(int) int clear() int path() int row(int,int) int steps(int) int asks(int) "
            + "int draws(int,int) int breaks(int) int lossy(int) int slot(int,int) int episode(int,int) int packets(int,int) "
            + "int delay(int) int under(int,int) long pattern(int,int) long forget() int trust(int,int) int agrees(int) "
            + "long estimate(int,int) long truth(int,int) int state(int) int weight(int,int,int) int empty() long share(int,int) "
            + "long chance(int,int,int) long expected(int,int) long lasts(int,int) int stab(int,int) int ahead(int,int) "
            + "int enough(int) int count(int)";

    public static void main(String[] args) {
        Check.due("BAD", EpisodeProbes.BAD, -1);
        Check.due("FULL", EpisodeProbes.FULL, -2);
        Check.due("STATE", EpisodeProbes.STATE, -3);
        Check.due("FEW", EpisodeProbes.FEW, -4);
        Check.due("UNLIKE", EpisodeProbes.UNLIKE, -5);
        Check.due("OVER", EpisodeProbes.OVER, -6);
        Check.due("NONE", EpisodeProbes.NONE, -9);
        classes();
        methods();
        fields();
        parameters(EpisodeProbes.class);
        for (Class<?> inner : EpisodeProbes.class.getDeclaredClasses()) parameters(inner);
        Check.end("FaceTest");
    }

    private static void classes() {
        Class<?> c = EpisodeProbes.class;
        Check.holds("public and final", Modifier.isPublic(c.getModifiers()) && Modifier.isFinal(c.getModifiers()));
        Constructor<?>[] constructors = c.getDeclaredConstructors();
        Check.due("constructors", constructors.length, 1);
        Check.holds("a public one without parameters",
                Modifier.isPublic(constructors[0].getModifiers()) && constructors[0].getParameterCount() == 0);
        Check.holds("at most some twelve classes", c.getDeclaredClasses().length <= 12);
        for (Class<?> inner : c.getDeclaredClasses()) {
            int modifiers = inner.getModifiers();
            Check.holds(inner + " is static", Modifier.isStatic(modifiers));
            Check.holds(inner + " is neither public nor protected", !Modifier.isPublic(modifiers) && !Modifier.isProtected(modifiers));
            Check.holds(inner + " has no class inside", inner.getDeclaredClasses().length == 0);
        }
    }

    private static void methods() {
        TreeSet<String> found = new TreeSet<>(), names = new TreeSet<>();
        for (Method m : EpisodeProbes.class.getDeclaredMethods()) {
            if (m.isSynthetic() || Modifier.isPrivate(m.getModifiers())) continue;
            Check.holds(m + " is public", Modifier.isPublic(m.getModifiers()) && !Modifier.isStatic(m.getModifiers()));
            StringBuilder types = new StringBuilder();
            for (Class<?> t : m.getParameterTypes()) types.append(types.length() == 0 ? "" : ",").append(t);
            found.add(m.getReturnType() + " " + m.getName() + "(" + types + ")");
            names.add(m.getName());
        }
        TreeSet<String> due = new TreeSet<>(Arrays.asList(METHODS.split("(?<=\\)) ")));
        Check.holds("the methods are " + due + ", not " + found, found.equals(due));
        Check.due("methods", found.size(), 31);
        for (Method m : EpisodeProbes.class.getDeclaredMethods()) {
            if (Modifier.isPrivate(m.getModifiers())) Check.holds(m + " has a name of its own", !names.contains(m.getName()));
        }
    }

    private static void fields() {
        int constants = 0;
        for (Field f : EpisodeProbes.class.getDeclaredFields()) {
            int modifiers = f.getModifiers();
            if (Modifier.isPrivate(modifiers)) continue;
            Check.holds(f + " is a constant",
                    Modifier.isPublic(modifiers) && Modifier.isStatic(modifiers) && Modifier.isFinal(modifiers) && f.getType() == int.class);
            constants++;
        }
        Check.due("constants", constants, 7);
        staticsAreFinal(EpisodeProbes.class);
        for (Class<?> inner : EpisodeProbes.class.getDeclaredClasses()) staticsAreFinal(inner);
    }

    private static void parameters(Class<?> c) {
        for (Method m : c.getDeclaredMethods()) Check.holds(m + " takes at most seven parameters", m.getParameterCount() <= 7);
        for (Constructor<?> k : c.getDeclaredConstructors()) Check.holds(k + " takes at most seven parameters", k.getParameterCount() <= 7);
    }

    private static void staticsAreFinal(Class<?> c) {
        int own = 0;
        for (Field f : c.getDeclaredFields()) {
            if (Modifier.isStatic(f.getModifiers())) Check.holds(f + " is final", Modifier.isFinal(f.getModifiers()));
            else own++;
        }
        Check.holds(c + " has at most some twenty fields", own <= 20);
    }
}
