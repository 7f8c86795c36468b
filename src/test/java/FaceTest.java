import java.lang.reflect.Constructor;
import java.lang.reflect.Field;
import java.lang.reflect.Method;
import java.lang.reflect.Modifier;
import java.util.List;
import java.util.Set;
import java.util.TreeSet;

/** The public face as the document gives it, and nothing else that is seen from outside. */
public final class FaceTest {
    private static final String[] FACE = {
        "int man(int,int)", "int set(int,int,int)", "int boat(int,int)", "int day(int,int,int)", "int boatTold(int)",
        "int rule(int,int,int)", "int ruleTold(int,int)", "int feed(long,int)", "int text()", "int force(int)",
        "long home(int,int,int)", "long mean(int,int,int)", "int told(int,int,int,int)", "int ends(int,int)",
        "int best(int)", "int rations(int)", "int take(int,int)", "int takes(int)", "long hid(int,int,int,int)",
        "int judge(int,int,int)", "int until(int,int)", "int image()", "int back()", "int sheet(int,int,int)",
        "int cell(int,int,int)", "int copy(int,int,int,int,int)", "int men(int,int,int,int)", "int taken(int,int)"};

    private FaceTest() {
    }

    public static void main(String[] args) {
        methods();
        constants();
        made();
        inside();
        Check.finish();
    }

    private static String signature(Method m) {
        StringBuilder s = new StringBuilder(m.getReturnType() + " " + m.getName() + "(");
        for (int i = 0; i < m.getParameterCount(); i++) {
            s.append(i == 0 ? "" : ",").append(m.getParameterTypes()[i]);
        }
        return s.append(")").toString();
    }

    private static void methods() {
        Set<String> names = new TreeSet<>();
        Set<String> got = new TreeSet<>();
        for (Method m : LastKeg.class.getDeclaredMethods()) {
            int mods = m.getModifiers();
            if (!Modifier.isPublic(mods)) {
                Check.holds(m + " is private", Modifier.isPrivate(mods));
                continue;
            }
            got.add(signature(m));
            names.add(m.getName());
            Check.due(m.toString(), mods, Modifier.PUBLIC);
            Check.due(m + " names exceptions", m.getExceptionTypes().length, 0);
        }
        Check.holds("the face: " + got, got.equals(new TreeSet<>(List.of(FACE))));
        for (Method m : LastKeg.class.getDeclaredMethods()) {
            Check.holds(m + " bears a public name", Modifier.isPublic(m.getModifiers()) || !names.contains(m.getName()));
        }
    }

    private static void constants() {
        Set<String> seen = new TreeSet<>();
        for (Field f : LastKeg.class.getDeclaredFields()) {
            if (!Modifier.isPrivate(f.getModifiers())) {
                seen.add(f.getType() + " " + f.getName());
                Check.due(f.getName(), f.getModifiers(), Modifier.PUBLIC | Modifier.STATIC | Modifier.FINAL);
            }
        }
        Check.holds("constants: " + seen, seen.equals(Set.of("int NONE", "int BAD", "int STATE", "int FULL", "long NO")));
        Check.due("NONE", LastKeg.NONE, -1);
        Check.due("BAD", LastKeg.BAD, -2);
        Check.due("STATE", LastKeg.STATE, -3);
        Check.due("FULL", LastKeg.FULL, -4);
        Check.due("NO", LastKeg.NO, -4611686018427387904L);
    }

    private static void made() {
        Constructor<?>[] made = LastKeg.class.getDeclaredConstructors();
        Check.due("constructors", made.length, 1);
        Check.due("the constructor", made[0].getModifiers(), Modifier.PUBLIC);
        Check.due("what it takes", made[0].getParameterCount(), 0);
        Check.due("the class", LastKeg.class.getModifiers(), Modifier.PUBLIC | Modifier.FINAL);
        Check.holds("nothing stands above it", LastKeg.class.getSuperclass() == Object.class
            && LastKeg.class.getInterfaces().length == 0);
    }

    private static void inside() {
        for (Class<?> c : LastKeg.class.getDeclaredClasses()) {
            int mods = c.getModifiers();
            Check.holds(c + " is not seen", !Modifier.isPublic(mods) && !Modifier.isProtected(mods));
        }
    }
}
