import java.lang.reflect.Constructor;
import java.lang.reflect.Field;
import java.lang.reflect.Method;
import java.lang.reflect.Modifier;
import java.util.TreeSet;

/** The public face is that of the document, and nothing beside it can be seen from outside. */
public final class FaceTest {
    public static void main(String[] args) {
        TreeSet<String> seen = new TreeSet<>();
        for (Field field : UnitDesk.class.getDeclaredFields()) {
            if (!Modifier.isPrivate(field.getModifiers())) {
                seen.add(Modifier.toString(field.getModifiers()) + " " + field.getType() + " " + field.getName());
            }
        }
        for (Method method : UnitDesk.class.getDeclaredMethods()) {
            if (!Modifier.isPrivate(method.getModifiers())) {
                seen.add(method.toString());
            }
        }
        for (Constructor<?> constructor : UnitDesk.class.getDeclaredConstructors()) {
            seen.add(constructor.toString());
        }
        TreeSet<String> due = new TreeSet<>();
        for (String name : new String[] {"REFUSED", "NONE", "FULL", "WORD", "ARGUMENT", "LABEL", "BAD"}) {
            due.add("public static final int " + name);
        }
        String[] methods = {"put(int)", "line()", "clear()", "assemble()", "item(int,int)", "unit(int)", "set(int,int)",
            "read(int,int)", "check()", "told(int,int)", "run(int)", "state(int)"};
        for (String method : methods) {
            due.add("public int UnitDesk." + method);
        }
        due.add("public UnitDesk()");
        Expect.same("the face", seen.toString(), due.toString());
        Expect.same("the class", Modifier.toString(UnitDesk.class.getModifiers()), "public final");
        constants();
        Expect.finish();
    }

    private static void constants() {
        Expect.due("REFUSED", UnitDesk.REFUSED, -1);
        Expect.due("NONE", UnitDesk.NONE, -2);
        Expect.due("FULL", UnitDesk.FULL, -3);
        Expect.due("WORD", UnitDesk.WORD, -4);
        Expect.due("ARGUMENT", UnitDesk.ARGUMENT, -5);
        Expect.due("LABEL", UnitDesk.LABEL, -6);
        Expect.due("BAD", UnitDesk.BAD, -7);
    }
}
