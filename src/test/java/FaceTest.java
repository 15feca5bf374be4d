import java.lang.reflect.Constructor;
import java.lang.reflect.Field;
import java.lang.reflect.Method;
import java.lang.reflect.Modifier;
import java.util.ArrayList;
import java.util.Arrays;
import java.util.List;

/** The public face is what the document says, and nothing more. */
public final class FaceTest {
    private static final String[] FACE = {
        "boolean hold(int)", "boolean restore(int)", "boolean step(int,int)", "boolean undo()",
        "boolean wind(int)", "int back(int)", "int bestDusk()", "int count(int)", "int crowd(int)",
        "int cut(int)", "int cuts(int)", "int dusk(int,int)", "int feed(int,int,int,int,int)",
        "int forget()", "int home(int)", "int knows(int)", "int links(int,int)", "int lives(int)",
        "int man(int,int)", "int meet(int,int)", "int most(int)", "int nearest(int,int)",
        "int orderAt(int)", "int orders()", "int over(int,int)", "int piece(int,int,int)",
        "int place()", "int plain(int)", "int read()", "int rounds()", "int run(int)",
        "int shown(int)", "int shows(int,int,int)", "int starts(int,int,int)",
        "int street(int,int,int,int)", "int tell(int,int,boolean)", "int thieves()",
        "int turns(int,int)", "int unfair()", "int uppermost(int)", "int waits(int)", "int way(int)",
        "int wayAt(int,int)"
    };

    private static boolean isInner(int modifiers) {
        return Modifier.isPrivate(modifiers);
    }

    private static void methods() {
        List<String> found = new ArrayList<>();
        for (Method method : ThreadTown.class.getDeclaredMethods()) {
            if (!isInner(method.getModifiers())) {
                List<String> types = new ArrayList<>();
                for (Class<?> type : method.getParameterTypes()) {
                    types.add(type.getName());
                }
                found.add(method.getReturnType() + " " + method.getName() + "(" + String.join(",", types) + ")");
                Check.due(method.getName() + " is public alone", Modifier.PUBLIC, method.getModifiers());
            }
        }
        found.sort(null);
        Check.due("methods " + found, true, found.equals(Arrays.asList(FACE)));
    }

    private static void constants() throws IllegalAccessException {
        int seen = 0;
        for (Field field : ThreadTown.class.getDeclaredFields()) {
            if (!isInner(field.getModifiers())) {
                seen++;
                Check.due("NONE", true, field.getName().equals("NONE") && field.getType() == int.class);
                Check.due("NONE's kind", Modifier.PUBLIC | Modifier.STATIC | Modifier.FINAL, field.getModifiers());
                Check.due("NONE's value", -1, field.getInt(null));
            }
        }
        Check.due("constants", 1, seen);
    }

    private static void constructors() {
        Constructor<?>[] all = ThreadTown.class.getDeclaredConstructors();
        Check.due("constructors", 1, all.length);
        Check.due("constructor's parameters", 0, all[0].getParameterCount());
        Check.due("constructor is public", true, Modifier.isPublic(all[0].getModifiers()));
    }

    private static void kind() {
        int modifiers = ThreadTown.class.getModifiers();
        Check.due("public and final", Modifier.PUBLIC | Modifier.FINAL, modifiers);
        Check.due("no package", 0, ThreadTown.class.getPackageName().length());
        Check.due("interfaces", 0, ThreadTown.class.getInterfaces().length);
        for (Class<?> inside : ThreadTown.class.getDeclaredClasses()) {
            Check.due(inside + " is static", true, Modifier.isStatic(inside.getModifiers()));
            Check.due(inside + " is not public", false, Modifier.isPublic(inside.getModifiers()));
        }
    }

    public static void main(String[] args) throws IllegalAccessException {
        kind();
        constants();
        constructors();
        methods();
        Check.finish();
    }
}
