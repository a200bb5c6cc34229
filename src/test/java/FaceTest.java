import java.lang.reflect.Constructor;
import java.lang.reflect.Field;
import java.lang.reflect.Method;
import java.lang.reflect.Modifier;
import java.util.Arrays;
import java.util.Set;
import java.util.TreeSet;

/** The class has the document's public face, and nothing else that can be seen from outside. */
public final class FaceTest {
    private static final String[] FACE = {
        "public PlaneNet(int)",
        "public int PlaneNet.add(int,int) throws java.lang.IllegalArgumentException,java.lang.IllegalStateException",
        "public int PlaneNet.clear()",
        "public int PlaneNet.corner(int) throws java.lang.IndexOutOfBoundsException",
        "public int PlaneNet.count(int)",
        "public int PlaneNet.find(int,int) throws java.lang.IllegalArgumentException",
        "public int PlaneNet.locate(int,int) throws java.lang.IllegalArgumentException",
        "public int PlaneNet.located(int)",
        "public int PlaneNet.nearest(int,int) throws java.lang.IllegalArgumentException,java.lang.IllegalStateException",
        "public int PlaneNet.neighbour(int,int) throws java.lang.IndexOutOfBoundsException",
        "public int PlaneNet.neighbours(int) throws java.lang.IndexOutOfBoundsException",
        "public int PlaneNet.point(int,int) throws java.lang.IndexOutOfBoundsException",
        "public int PlaneNet.triangle(int,int) throws java.lang.IndexOutOfBoundsException",
        "public long PlaneNet.closest(int) throws java.lang.IndexOutOfBoundsException,java.lang.IllegalStateException",
        "public static final int PlaneNet.NONE",
    };

    public static void main(String[] args) {
        Set<String> want = new TreeSet<>(Arrays.asList(FACE));
        Set<String> got = new TreeSet<>();
        Set<String> names = new TreeSet<>();
        boolean doubled = false;
        for (Constructor<?> one : PlaneNet.class.getDeclaredConstructors()) {
            got.add(one.toString());
        }
        for (Field one : PlaneNet.class.getDeclaredFields()) {
            if (!Modifier.isPrivate(one.getModifiers())) {
                got.add(one.toString());
            }
        }
        for (Method one : PlaneNet.class.getDeclaredMethods()) {
            if (!Modifier.isPrivate(one.getModifiers())) {
                got.add(one.toString());
                names.add(one.getName());
            }
        }
        for (Class<?> inside : PlaneNet.class.getDeclaredClasses()) {
            for (Method one : inside.getDeclaredMethods()) {
                doubled |= names.contains(one.getName());
            }
        }
        for (Method one : PlaneNet.class.getDeclaredMethods()) {
            doubled |= Modifier.isPrivate(one.getModifiers()) && names.contains(one.getName());
        }
        boolean whole = Modifier.isPublic(PlaneNet.class.getModifiers()) && Modifier.isFinal(PlaneNet.class.getModifiers());
        if (!want.equals(got) || doubled || !whole) {
            System.out.println("the face is " + got + ", due is " + want + "; doubled names: " + doubled + "; public and final: " + whole);
            System.exit(1);
        }
        System.out.println("the face is the document's");
    }
}
