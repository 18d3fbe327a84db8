import java.lang.reflect.Constructor;
import java.lang.reflect.Field;
import java.lang.reflect.Method;
import java.lang.reflect.Modifier;
import java.util.Map;
import java.util.TreeMap;

/** The class has the document's face and no other member that can be seen from outside. */
public final class FaceTest {
    private static final String STATE = "IllegalStateException";
    private static final String INDEX = "IndexOutOfBoundsException";
    private static final String ARGUMENT = "IllegalArgumentException";
    private static final String UNSUPPORTED = "UnsupportedOperationException";

    public static void main(String[] args) {
        Check.due("final and public", InkCoder.class.getModifiers(), Modifier.PUBLIC | Modifier.FINAL);
        Check.due("NO", InkCoder.NO, -2147483648L);
        Check.due("BROKEN", InkCoder.BROKEN, -1L);
        constructors();
        fields();
        methods();
        classes();
        Check.done();
    }

    private static void constructors() {
        Constructor<?>[] all = InkCoder.class.getDeclaredConstructors();
        Check.due("constructors", all.length, 1);
        Check.due("constructor is public", all[0].getModifiers(), Modifier.PUBLIC);
        Check.due("its parameters", all[0].getParameterCount(), 0);
    }

    private static void fields() {
        int open = 0;
        for (Field field : InkCoder.class.getDeclaredFields()) {
            boolean isPrivate = Modifier.isPrivate(field.getModifiers());
            open += isPrivate ? 0 : 1;
            if (Modifier.isStatic(field.getModifiers())) {
                Check.due(field.getName() + " is final", Modifier.isFinal(field.getModifiers()), true);
            }
        }
        Check.due("fields that are not private", open, 2);
    }

    private static void methods() {
        Map<String, String> face = face();
        Map<String, String> seen = new TreeMap<>();
        for (Method method : InkCoder.class.getDeclaredMethods()) {
            if (Modifier.isPrivate(method.getModifiers())) {
                Check.due(method.getName() + " is private and of the face", face.containsKey(method.getName()), false);
            } else {
                seen.put(method.getName(), signature(method));
            }
        }
        Check.due("the face", seen.toString(), face.toString());
    }

    private static void classes() {
        for (Class<?> inner : InkCoder.class.getDeclaredClasses()) {
            int modifiers = inner.getModifiers();
            Check.due(inner + " is open", Modifier.isPublic(modifiers) || Modifier.isProtected(modifiers), false);
            Check.due(inner + " is static", Modifier.isStatic(modifiers), true);
        }
    }

    private static String signature(Method method) {
        StringBuilder text = new StringBuilder();
        text.append(Modifier.toString(method.getModifiers())).append(' ').append(method.getReturnType());
        for (Class<?> parameter : method.getParameterTypes()) {
            text.append(' ').append(parameter);
        }
        for (Class<?> exception : method.getExceptionTypes()) {
            text.append(' ').append(exception.getSimpleName());
        }
        return text.toString();
    }

    private static Map<String, String> face() {
        Map<String, String> face = new TreeMap<>();
        face.put("size", "public void int int int " + INDEX + " " + ARGUMENT);
        face.put("flip", "public boolean int int int " + INDEX);
        face.put("point", "public boolean int int int");
        face.put("draw", "public void int int int int int " + INDEX + " " + ARGUMENT);
        face.put("board", "public int int int " + INDEX + " " + ARGUMENT);
        face.put("put", "public boolean int");
        face.put("cut", "public boolean int");
        face.put("length", "public int");
        face.put("code", "public int int " + INDEX);
        face.put("begin", "public void boolean");
        face.put("end", "public int " + STATE);
        face.put("state", "public int");
        face.put("region", "public int int int boolean " + STATE + " " + INDEX + " " + ARGUMENT);
        face.put("refine", "public int int int int int " + STATE + " " + INDEX + " " + ARGUMENT);
        face.put("number", "public int int int " + STATE + " " + INDEX + " " + ARGUMENT);
        face.put("learn", "public int int " + INDEX + " " + UNSUPPORTED);
        face.put("forget", "public void");
        face.put("mark", "public int int int int " + INDEX + " " + ARGUMENT + " " + UNSUPPORTED);
        face.put("symbol", "public int int int int " + INDEX);
        face.put("marked", "public int int int " + INDEX);
        face.put("dictionary", "public int " + STATE);
        face.put("text", "public int int int boolean int " + STATE + " " + INDEX + " " + ARGUMENT);
        return face;
    }
}
