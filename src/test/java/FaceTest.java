import java.lang.reflect.Constructor;
import java.lang.reflect.Field;
import java.lang.reflect.Method;
import java.lang.reflect.Modifier;
import java.util.Set;
import java.util.TreeSet;

/** The class has the document's face, and no other member that is not private. */
public final class FaceTest {
    private static final String[] FACE = {
        "int BAD = -1", "int NONE = -2", "int MANY = -3", "int LOOSE = -4", "RadiusDecoder()",
        "int field(int)", "int times(int, int)", "int over(int, int)", "int log(int)",
        "boolean code(int, int, int)", "boolean tell(int, int)", "int encode(boolean)",
        "boolean receive(int, int)", "boolean erase(int)", "int word(int)", "int syndrome(int)",
        "int decode(boolean)", "int decoded(int)", "int sent(int)", "int locator(int)", "int list(int)",
        "int listed(int, int)", "int distance(int)", "int radius(int)", "int weight(int)"};

    public static void main(String[] args) throws IllegalAccessException {
        Class<?> type = RadiusDecoder.class;
        Set<String> want = new TreeSet<>(Set.of(FACE));
        Set<String> got = new TreeSet<>();
        for (Field f : type.getDeclaredFields()) {
            if (!Modifier.isPrivate(f.getModifiers())) {
                got.add(visible(f.getModifiers()) + "int " + f.getName() + " = " + f.get(null));
            }
        }
        for (Constructor<?> c : type.getDeclaredConstructors()) {
            if (!Modifier.isPrivate(c.getModifiers())) {
                got.add(visible(c.getModifiers()) + "RadiusDecoder(" + names(c.getParameterTypes()) + ")");
            }
        }
        for (Method m : type.getDeclaredMethods()) {
            if (!Modifier.isPrivate(m.getModifiers())) {
                String name = m.getReturnType() + " " + m.getName();
                got.add(visible(m.getModifiers()) + name + "(" + names(m.getParameterTypes()) + ")");
            }
        }
        boolean good = got.equals(want) && type.getModifiers() == (Modifier.PUBLIC | Modifier.FINAL)
                && type.getSuperclass() == Object.class && type.getInterfaces().length == 0;
        System.out.println(good ? "the face is as due" : "the face is " + got + ", due is " + want);
        if (!good) {
            System.exit(1);
        }
    }

    private static String visible(int modifiers) {
        return Modifier.isPublic(modifiers) ? "" : "not public: ";
    }

    private static String names(Class<?>[] types) {
        StringBuilder text = new StringBuilder();
        for (Class<?> t : types) {
            text.append(text.length() == 0 ? "" : ", ").append(t.getName());
        }
        return text.toString();
    }
}
