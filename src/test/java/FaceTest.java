import java.lang.reflect.Constructor;
import java.lang.reflect.Field;
import java.lang.reflect.Method;
import java.lang.reflect.Modifier;
import java.util.Arrays;
import java.util.Set;
import java.util.TreeSet;

/** The public face is the document's, and nothing else of the class can be seen. */
public final class FaceTest {
    private static final String[] FACE = {
        "boolean room(int,int,int,int,int)", "boolean store(int)", "boolean door(int)",
        "int shut(int,int,int,boolean)", "int open(int,int)", "boolean close(int)", "int look(int,int)",
        "int night(int,int)", "int can(int,int,int,int)", "int promise(int,int,int,int,int)", "boolean firm(int)",
        "boolean cancel(int)", "int change(int,int,int)", "boolean come(int)", "int next()",
        "long promised(int,int)", "int spot(int,int)", "int moves()", "int floors(int,int,int)", "int lacks(int)",
        "int rooms(int,int,int)", "boolean over(int)", "boolean price(int,int,int,int)", "int rule(int,int,int)",
        "boolean drop(int)", "long cost(int,int,int)", "long least(int,int,int,int)", "int count(int)",
    };

    public static void main(String[] args) {
        Class<?> face = GuestHouse.class;
        Check.yes("public and final", face.getModifiers() == (Modifier.PUBLIC | Modifier.FINAL));
        Set<String> open = new TreeSet<>();
        Set<String> openNames = new TreeSet<>();
        for (Method m : face.getDeclaredMethods()) {
            if (!Modifier.isPrivate(m.getModifiers())) {
                Check.due(m + " is public alone", m.getModifiers(), Modifier.PUBLIC);
                open.add(told(m));
                openNames.add(m.getName());
            }
        }
        Check.yes("methods " + open, open.equals(new TreeSet<>(Arrays.asList(FACE))));
        hiddenNames(face, openNames);
        for (Class<?> inside : face.getDeclaredClasses()) {
            Check.yes(inside + " is static", Modifier.isStatic(inside.getModifiers()));
            Check.no(inside + " is public", Modifier.isPublic(inside.getModifiers()));
            Check.no(inside + " is protected", Modifier.isProtected(inside.getModifiers()));
            hiddenNames(inside, openNames);
        }
        for (Field f : face.getDeclaredFields()) {
            boolean none = f.getName().equals("NONE");
            Check.yes(f + " is as told", none == !Modifier.isPrivate(f.getModifiers()));
            Check.yes(f + ": static ones are final",
                !Modifier.isStatic(f.getModifiers()) || Modifier.isFinal(f.getModifiers()));
        }
        Constructor<?>[] constructors = face.getDeclaredConstructors();
        Check.due("one constructor", constructors.length, 1);
        Check.due("without parameters", constructors[0].getParameterCount(), 0);
        Check.due("NONE", GuestHouse.NONE, -1);
        Check.end();
    }

    private static String told(Method m) {
        StringBuilder text = new StringBuilder(m.getReturnType().getName()).append(' ').append(m.getName()).append('(');
        for (Class<?> p : m.getParameterTypes()) {
            text.append(text.charAt(text.length() - 1) == '(' ? "" : ",").append(p.getName());
        }
        return text.append(')').toString();
    }

    private static void hiddenNames(Class<?> where, Set<String> openNames) {
        for (Method m : where.getDeclaredMethods()) {
            boolean isFace = where == GuestHouse.class && Modifier.isPublic(m.getModifiers());
            Check.yes(m + " bears a name of its own", isFace || !openNames.contains(m.getName()));
        }
    }
}
