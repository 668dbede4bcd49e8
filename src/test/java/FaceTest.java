import java.lang.reflect.Constructor;
import java.lang.reflect.Field;
import java.lang.reflect.Method;
import java.lang.reflect.Modifier;
import java.util.Arrays;
import java.util.Set;
import java.util.TreeSet;

/** The public face is the document's, and no other. */
public final class FaceTest {
    public static void main(String[] args) {
        Check check = new Check("FaceTest");
        check.due("BAD", ZRoutines.BAD, -40000);
        check.due("FULL", ZRoutines.FULL, -40001);
        check.due("final", Modifier.isFinal(ZRoutines.class.getModifiers()) ? 1 : 0, 1);

        Set<String> want = new TreeSet<>(Arrays.asList("routine/1", "first/3", "add/4", "clear/1",
            "room/2", "user/2", "interrupt/2", "give/1", "run/2", "told/1", "size/1"));
        Set<String> got = new TreeSet<>();
        for (Method m : ZRoutines.class.getDeclaredMethods()) {
            if (!Modifier.isPrivate(m.getModifiers())) {
                got.add(m.getName() + "/" + m.getParameterCount());
                check.due(m.getName() + " answers an int", m.getReturnType() == int.class ? 1 : 0, 1);
            }
        }
        check.due("methods " + got, got.equals(want) ? 1 : 0, 1);

        int constructors = 0;
        for (Constructor<?> c : ZRoutines.class.getDeclaredConstructors()) {
            constructors += Modifier.isPrivate(c.getModifiers()) ? 0 : 1;
        }
        check.due("constructors", constructors, 1);

        for (Field f : ZRoutines.class.getDeclaredFields()) {
            boolean isConstant = f.getName().equals("BAD") || f.getName().equals("FULL");
            check.due("field " + f.getName(), isConstant || Modifier.isPrivate(f.getModifiers()) ? 1 : 0, 1);
        }
        check.finish();
    }
}
