import java.lang.reflect.Constructor;
import java.lang.reflect.Field;
import java.lang.reflect.Method;
import java.lang.reflect.Modifier;
import java.util.Set;
import java.util.TreeSet;

/** The public face of the document, that and no more, and those rules of LANGUAGE.md that a class file shows. */
public final class FaceTest {
    private static final Check CHECK = new Check("FaceTest");
    private static final Class<?> FACE = LyndonTransform.class;

    private static final Set<String> METHODS = Set.of("int limit(int)", "int put(int)", "void clear()", "int length()",
        "int at(int)", "int factorStart(int)", "int rowAt(int)", "int transform()", "int invert()", "void front()",
        "void unfront()", "int pack()", "int unpack()", "int putToken(int)", "int codeLength()", "int codeAt(int)");
    private static final Set<String> CONSTANTS = Set.of("int OK", "int NONE", "int BAD", "int FULL", "int TOO_LONG");

    public static void main(String[] args) {
        CHECK.isTrue("the class is public and final", FACE.getModifiers() == (Modifier.PUBLIC | Modifier.FINAL));
        CHECK.isTrue("the class stands in no package", FACE.getPackageName().isEmpty());
        CHECK.isTrue("the class extends and implements nothing",
            FACE.getSuperclass() == Object.class && FACE.getInterfaces().length == 0);
        CHECK.isTrue("the class holds no other one", FACE.getDeclaredClasses().length == 0);
        constructor();
        methods();
        fields();
        CHECK.finish();
    }

    private static void constructor() {
        Constructor<?>[] all = FACE.getDeclaredConstructors();
        CHECK.due("number of constructors", all.length, 1);
        CHECK.isTrue("the constructor is public", all[0].getModifiers() == Modifier.PUBLIC);
        CHECK.isTrue("it takes two int", parameters(all[0].getParameterTypes()).equals("(int,int)"));
    }

    private static void methods() {
        Set<String> open = new TreeSet<>();
        Set<String> openNames = new TreeSet<>();
        for (Method method : FACE.getDeclaredMethods()) {
            if (method.getModifiers() == Modifier.PUBLIC) {
                openNames.add(method.getName());
                open.add(method.getReturnType() + " " + method.getName() + parameters(method.getParameterTypes()));
            }
        }
        CHECK.isTrue("the public methods are the document's: " + open, open.equals(METHODS));
        for (Method method : FACE.getDeclaredMethods()) {
            boolean isPrivate = Modifier.isPrivate(method.getModifiers());
            CHECK.isTrue(method + " is public or private", isPrivate || method.getModifiers() == Modifier.PUBLIC);
            CHECK.isTrue(method + " bears no public name", !isPrivate || !openNames.contains(method.getName()));
            CHECK.isTrue(method + " takes at most seven", method.getParameterCount() <= 7);
            CHECK.isTrue(method + " answers a number", method.getReturnType().isPrimitive());
        }
    }

    private static String parameters(Class<?>[] types) {
        StringBuilder text = new StringBuilder("(");
        for (Class<?> type : types) {
            text.append(text.length() > 1 ? "," : "").append(type.getName());
        }
        return text.append(")").toString();
    }

    private static void fields() {
        Set<String> open = new TreeSet<>();
        int notStatic = 0;
        for (Field field : FACE.getDeclaredFields()) {
            int modifiers = field.getModifiers();
            Class<?> type = field.getType();
            notStatic += Modifier.isStatic(modifiers) ? 0 : 1;
            if (!Modifier.isPrivate(modifiers)) {
                open.add(type + " " + field.getName());
                CHECK.isTrue(field + " is a constant",
                    modifiers == (Modifier.PUBLIC | Modifier.STATIC | Modifier.FINAL));
            }
            if (Modifier.isStatic(modifiers)) {
                CHECK.isTrue(field + " is a number that never changes",
                    Modifier.isFinal(modifiers) && (type == int.class || type == long.class));
            }
            Class<?> cell = type.isArray() ? type.getComponentType() : type;
            CHECK.isTrue(field + " holds whole numbers or truth values",
                cell.isPrimitive() && cell != float.class && cell != double.class);
        }
        CHECK.isTrue("at most some forty fields: " + notStatic, notStatic <= 40);
        CHECK.isTrue("the public constants are the document's: " + open, open.equals(CONSTANTS));
    }
}
