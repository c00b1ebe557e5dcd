import java.lang.reflect.Constructor;
import java.lang.reflect.Field;
import java.lang.reflect.Method;
import java.lang.reflect.Modifier;
import java.util.Set;
import java.util.TreeSet;

/** The public face: the class, its constants, its constructor and its methods, and nothing beside them. */
public final class FaceTest {
    private static final Check CHECK = new Check();
    private static final String[] METHODS = {"int letter(int)", "int blank()", "int fault()", "int night()", "int sea(int)",
            "int rocket(int, int)", "int fire(int, int)", "long hits(int, int, int)", "long aim(int, int)", "int which(int)",
            "int man(int, int)", "int about(int, int)", "int as(int, int)", "int behind(int, int, boolean)",
            "int hawser(int)", "int come(int)", "int minutes(int)", "int breaks()", "long order(int)", "int said(int, int)",
            "int orders()", "int sure(int)", "int wreck(int)", "int stations(int, int)", "int nights(int, int)",
            "int image()", "int restore()", "int count(int)", "long digest()"};

    public static void main(String[] args) throws ReflectiveOperationException {
        constants();
        constructor();
        methods();
        fields();
        CHECK.end("FaceTest");
    }

    private static void constants() throws ReflectiveOperationException {
        String[] names = {"NONE", "UNKNOWN", "OUTSIDE", "STATE", "FULL"};
        int[] values = {-1, -101, -102, -103, -104};
        for (int i = 0; i < names.length; i++) {
            Field field = LineToWreck.class.getField(names[i]);
            CHECK.due(names[i], field.getInt(null), values[i]);
            CHECK.due(names[i] + " is public, static, final", field.getModifiers(),
                    Modifier.PUBLIC | Modifier.STATIC | Modifier.FINAL);
        }
        CHECK.due("public fields", LineToWreck.class.getFields().length, names.length);
    }

    private static void constructor() {
        CHECK.due("modifiers of the class", LineToWreck.class.getModifiers(), Modifier.PUBLIC | Modifier.FINAL);
        CHECK.due("constructors", LineToWreck.class.getDeclaredConstructors().length, 1);
        for (Constructor<?> constructor : LineToWreck.class.getDeclaredConstructors()) {
            CHECK.due("a public constructor", constructor.getModifiers(), Modifier.PUBLIC);
            CHECK.due("what it takes", constructor.getParameterCount(), 0);
        }
    }

    private static void methods() {
        Set<String> face = new TreeSet<>(Set.of(METHODS));
        Set<String> names = new TreeSet<>();
        for (Method method : LineToWreck.class.getDeclaredMethods()) {
            if (!Modifier.isPrivate(method.getModifiers()) && !method.isSynthetic()) {
                StringBuilder told = new StringBuilder(method.getReturnType() + " " + method.getName() + "(");
                for (Class<?> type : method.getParameterTypes()) {
                    told.append(told.charAt(told.length() - 1) == '(' ? "" : ", ").append(type);
                }
                CHECK.due(told + ") stands in the face", face.remove(told + ")") ? 1 : 0, 1);
                names.add(method.getName());
            }
        }
        CHECK.due("methods of the face that are not there: " + face, face.size(), 0);
        for (Method method : LineToWreck.class.getDeclaredMethods()) {
            boolean hidden = Modifier.isPrivate(method.getModifiers()) && names.contains(method.getName());
            CHECK.due("a private method by the name of " + method.getName(), hidden ? 1 : 0, 0);
        }
    }

    private static void fields() {
        for (Field field : LineToWreck.class.getDeclaredFields()) {
            int modifiers = field.getModifiers();
            CHECK.due(field.getName() + " is private, or one of the constants", Modifier.isPrivate(modifiers)
                    || Modifier.isPublic(modifiers) && Modifier.isStatic(modifiers) ? 1 : 0, 1);
            CHECK.due(field.getName() + ", if static, is final",
                    Modifier.isStatic(modifiers) && !Modifier.isFinal(modifiers) ? 1 : 0, 0);
        }
    }
}
