import java.lang.reflect.Constructor;
import java.lang.reflect.Field;
import java.lang.reflect.Method;
import java.lang.reflect.Modifier;
import java.util.Set;
import java.util.TreeSet;

/** The public face: just the document's constants, constructor and methods. */
final class FaceTest {
    private static final String INDEX = " throws IndexOutOfBoundsException";
    private static final String BOTH = INDEX + ", IllegalStateException";

    private FaceTest() { }

    static void all() {
        Check.test("the face: constants", FaceTest::constants);
        Check.test("the face: class and constructor", FaceTest::classItself);
        Check.test("the face: methods", FaceTest::methods);
    }

    private static void constants() {
        Check.same("ON_WAY", Causewaymail.ON_WAY, 0);
        Check.same("WAITING", Causewaymail.WAITING, 1);
        Check.same("DELIVERED", Causewaymail.DELIVERED, 2);
        Check.same("LOST", Causewaymail.LOST, 3);
        Check.same("DROPPED", Causewaymail.DROPPED, 4);
        Check.same("NONE", Causewaymail.NONE, -1);
        Set<String> open = new TreeSet<>();
        for (Field field : Causewaymail.class.getDeclaredFields()) {
            if (!Modifier.isPrivate(field.getModifiers())) {
                open.add(Modifier.toString(field.getModifiers()) + " " + field.getType() + " " + field.getName());
            }
        }
        Set<String> due = new TreeSet<>();
        for (String name : "ON_WAY WAITING DELIVERED LOST DROPPED NONE".split(" ")) {
            due.add("public static final int " + name);
        }
        Check.same("open fields", open + "\n", due + "\n");
    }

    private static void classItself() {
        int modifiers = Causewaymail.class.getModifiers();
        Check.same("public final", Modifier.toString(modifiers) + "\n", "public final\n");
        Constructor<?>[] constructors = Causewaymail.class.getDeclaredConstructors();
        Check.same("constructors", constructors.length, 1);
        Check.same("its parameters", constructors[0].getParameterCount(), 0);
        Check.same("it is public", Modifier.isPublic(constructors[0].getModifiers()), true);
    }

    private static void methods() {
        Set<String> due = new TreeSet<>();
        for (String name : "send passToken tell".split(" ")) due.add("int " + name + "(int)" + BOTH);
        due.add("int arrive(int,int)" + BOTH);
        for (String name : "lose sendAgain".split(" ")) due.add("void " + name + "(int,int)" + BOTH);
        due.add("void fail(int)" + BOTH);
        for (String name : "messages holder numbered view".split(" ")) due.add("int " + name + "()");
        due.add("int flush() throws IllegalStateException");
        for (String name : "sender delivered waiting numberOf ordered agreed agreedAt".split(" ")) {
            due.add("int " + name + "(int)" + INDEX);
        }
        for (String name : "copy clock stamp deliveredAt waitingAt needs firstNeeded proposal".split(" ")) {
            due.add("int " + name + "(int,int)" + INDEX);
        }
        for (String name : "precedes precedesByHistory areConcurrent".split(" ")) {
            due.add("boolean " + name + "(int,int)" + INDEX);
        }
        due.add("boolean isAlive(int)" + INDEX);
        Set<String> open = new TreeSet<>();
        Set<String> names = new TreeSet<>();
        Set<String> privateNames = new TreeSet<>();
        for (Method method : Causewaymail.class.getDeclaredMethods()) {
            if (Modifier.isPrivate(method.getModifiers())) {
                privateNames.add(method.getName());
            } else {
                open.add(told(method));
                names.add(method.getName());
            }
        }
        Check.same("open methods", String.join("\n", open) + "\n", String.join("\n", due) + "\n");
        privateNames.retainAll(names);
        Check.same("private methods with public names", privateNames.size(), 0);
    }

    private static String told(Method method) {
        StringBuilder text = new StringBuilder();
        text.append(method.getReturnType()).append(' ').append(method.getName()).append('(');
        for (int i = 0; i < method.getParameterCount(); i++) {
            text.append(i == 0 ? "" : ",").append(method.getParameterTypes()[i]);
        }
        text.append(')');
        for (int i = 0; i < method.getExceptionTypes().length; i++) {
            text.append(i == 0 ? " throws " : ", ").append(method.getExceptionTypes()[i].getSimpleName());
        }
        boolean plain = method.getModifiers() == Modifier.PUBLIC;
        return plain ? text.toString() : Modifier.toString(method.getModifiers()) + " " + text;
    }
}
