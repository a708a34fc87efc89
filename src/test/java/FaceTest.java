import java.lang.reflect.Constructor;
import java.lang.reflect.Field;
import java.lang.reflect.Method;
import java.lang.reflect.Modifier;
import java.util.Arrays;
import java.util.Set;
import java.util.TreeSet;

/** The public face is the document's, and nothing else of the class can be seen from outside. */
public final class FaceTest {
    private static final String[] METHODS = {
        "int thing(int,int,int,int)", "int of(int,int)", "int put(int)", "int say(int)", "int weigh(int,int)",
        "int fire(int)", "int tip()", "int row(int,int,int)", "int feed(int)", "int kitchen()", "int told(int)",
        "int pass(int)", "int on(int,int)", "int best(int,int)", "int enough(int)", "int flame(int,int)",
        "int see(int,int)", "int can(int,int)", "long odds(int,int)", "long mean(int)", "int plan(int,int)",
        "int ends(int)", "int book(int,int)", "int looked()", "int judge(int,int)", "int image()", "int undo()",
        "int act(int,int,int)", "int trace(int)", "int taken(int,int)", "int count(int)", "int tape(int,int,int)",
        "int item(int,int,long)", "long read(int,int)", "int shift(int,int,int,int,int)"
    };

    public static void main(String[] args) throws Exception {
        Due due = new Due();
        Set<String> open = new TreeSet<>();
        Set<String> hidden = new TreeSet<>();
        for (Method m : QuinceEnd.class.getDeclaredMethods()) {
            if (m.isSynthetic()) {
                continue;
            }
            if (Modifier.isPrivate(m.getModifiers())) {
                hidden.add(m.getName());
            } else {
                String types = Arrays.toString(m.getParameterTypes()).replaceAll("[\\[\\] ]", "");
                open.add(m.getReturnType() + " " + m.getName() + "(" + types + ")");
            }
        }
        for (Class<?> inside : QuinceEnd.class.getDeclaredClasses()) {
            due.is(inside + " is static", Modifier.isStatic(inside.getModifiers()) ? 1 : 0, 1);
            due.is(inside + " can be seen", inside.getModifiers() & (Modifier.PUBLIC | Modifier.PROTECTED), 0);
            for (Method m : inside.getDeclaredMethods()) {
                if (Modifier.isPrivate(m.getModifiers())) {
                    hidden.add(m.getName());
                }
            }
        }
        Set<String> expected = new TreeSet<>(Arrays.asList(METHODS));
        due.is("methods of the face " + open, open.equals(expected) ? 1 : 0, 1);
        for (String method : METHODS) {
            String name = method.substring(method.indexOf(' ') + 1, method.indexOf('('));
            due.is("a private method has the public name " + name, hidden.contains(name) ? 1 : 0, 0);
        }
        int constants = 0;
        for (Field f : QuinceEnd.class.getDeclaredFields()) {
            if (!Modifier.isPrivate(f.getModifiers())) {
                constants++;
                due.is(f.getName() + " is public static final", f.getModifiers(),
                    Modifier.PUBLIC | Modifier.STATIC | Modifier.FINAL);
            }
        }
        due.is("constants", constants, 5);
        due.is("NONE", QuinceEnd.NONE, -1);
        due.is("BAD", QuinceEnd.BAD, -2);
        due.is("STATE", QuinceEnd.STATE, -3);
        due.is("FULL", QuinceEnd.FULL, -4);
        due.is("NO", QuinceEnd.NO, -9223372036854775808L);
        Constructor<?>[] constructors = QuinceEnd.class.getDeclaredConstructors();
        due.is("constructors", constructors.length, 1);
        due.is("its parameters", constructors[0].getParameterCount(), 0);
        due.is("it is public", constructors[0].getModifiers(), Modifier.PUBLIC);
        due.is("the class is public and final", QuinceEnd.class.getModifiers(), Modifier.PUBLIC | Modifier.FINAL);
        due.end();
    }
}
