import java.lang.reflect.Constructor;
import java.lang.reflect.Field;
import java.lang.reflect.Method;
import java.lang.reflect.Modifier;
import java.util.Arrays;
import java.util.TreeSet;

/** The class has the document's face, and nothing else that is seen from outside (LANGUAGE.md, rules 1 and 5). */
public final class FaceTest {
    private static final String FACE = """
        boolean close(int) throws IllegalArgumentException
        boolean cut(int)
        boolean exhaustive()
        boolean mend()
        double score(int) throws IllegalArgumentException NoSuchElementException
        int add() throws IllegalArgumentException IllegalStateException
        int build(int,int) throws IllegalArgumentException IllegalStateException
        int clear()
        int count(int) throws NoSuchElementException
        int feed(int,long) throws IllegalArgumentException IllegalStateException
        int hit(int,int) throws NoSuchElementException
        int holds(int) throws IllegalArgumentException
        int index(int,int) throws IllegalArgumentException IllegalStateException
        int last(int) throws NoSuchElementException
        int look(int) throws NoSuchElementException
        int open(int) throws IllegalArgumentException IllegalStateException
        int plan(int,int) throws NoSuchElementException
        int publish() throws IllegalArgumentException IllegalStateException
        int query(int,int,int,long) throws IllegalArgumentException IllegalStateException
        int spoil(int,int) throws NoSuchElementException
        int sum(int) throws IllegalArgumentException
        long clock()
        long file(int) throws NoSuchElementException
        """;

    private FaceTest() {
    }

    public static void main(String[] args) {
        Class<?> c = ImpactShelf.class;
        Checks.isTrue("the class is public and final", (c.getModifiers() & 17) == 17);
        TreeSet<String> face = new TreeSet<>();
        TreeSet<String> names = new TreeSet<>();
        for (Method m : c.getDeclaredMethods()) {
            if (Modifier.isPublic(m.getModifiers())) {
                face.add(told(m));
                names.add(m.getName());
            }
        }
        Checks.same("the face", String.join("\n", face) + "\n", FACE);
        for (Method m : c.getDeclaredMethods()) {
            boolean own = Modifier.isPrivate(m.getModifiers()) && !names.contains(m.getName());
            Checks.isTrue("method " + m, Modifier.isPublic(m.getModifiers()) || own || m.isSynthetic());
        }
        Constructor<?>[] constructors = c.getDeclaredConstructors();
        Checks.same("constructors", constructors.length, 1);
        Checks.isTrue("it is public, without parameters", Modifier.isPublic(constructors[0].getModifiers())
            && constructors[0].getParameterCount() == 0);
        fields(c);
        for (Class<?> inside : c.getDeclaredClasses()) {
            int seen = inside.getModifiers() & (Modifier.PUBLIC | Modifier.PROTECTED);
            Checks.same("seen from outside: " + inside, seen, 0);
            fields(inside);
        }
        Checks.end("FaceTest");
    }

    private static void fields(Class<?> c) {
        for (Field f : c.getDeclaredFields()) {
            int m = f.getModifiers();
            Checks.isTrue("static and not final: " + f, !Modifier.isStatic(m) || Modifier.isFinal(m));
            Checks.isTrue("seen from outside: " + f, c != ImpactShelf.class || Modifier.isPrivate(m) || f.isSynthetic());
        }
    }

    private static String told(Method m) {
        StringBuilder all = new StringBuilder().append(m.getReturnType()).append(' ').append(m.getName()).append('(');
        all.append(String.join(",", Arrays.stream(m.getParameterTypes()).map(Class::toString).toList())).append(')');
        String[] thrown = Arrays.stream(m.getExceptionTypes()).map(Class::getSimpleName).sorted().toArray(String[]::new);
        return thrown.length == 0 ? all.toString() : all.append(" throws ").append(String.join(" ", thrown)).toString();
    }
}
