import java.lang.reflect.Constructor;
import java.lang.reflect.Field;
import java.lang.reflect.Method;
import java.lang.reflect.Modifier;
import java.util.Arrays;
import java.util.HashSet;
import java.util.Set;
import java.util.TreeSet;

/** The public face is the document's, to the letter, and nothing beside it can be seen from outside. */
public final class FaceTest {
    private static final String INDEX = " throws IndexOutOfBoundsException";
    private static final String ARGUMENT = ", IllegalArgumentException";
    private static final String STATE = ", IllegalStateException";

    private static final String[] METHODS = {
        "int forecast(int,int)" + INDEX + ARGUMENT + STATE,
        "int meter(int,int)" + INDEX + ARGUMENT + STATE,
        "int setPrice(int,int)" + INDEX + ARGUMENT,
        "int setLimit(int,int)" + INDEX + ARGUMENT,
        "void setSupplier(int,int) throws IllegalArgumentException",
        "int rent(int,int,int)" + INDEX + ARGUMENT + STATE,
        "int leave(int)" + INDEX + STATE,
        "int clear() throws IllegalStateException",
        "int quarter()",
        "int mostTradable()",
        "int trades()",
        "int ofTrade(int,int)" + INDEX,
        "int went(int)" + INDEX,
        "int flow(int)" + INDEX,
        "boolean isMember(int)" + INDEX,
        "int stored(int)" + INDEX,
        "int part(int)" + INDEX,
        "int bill(int)" + INDEX,
        "int pool()",
        "int supplied()",
    };

    public static void main(String[] args) {
        constants();
        shape();
        methods();
        Check.end();
    }

    private static void constants() {
        Check.due("TRADED", Gridpeer.TRADED, 0);
        Check.due("CUT", Gridpeer.CUT, 1);
        Check.due("STORED", Gridpeer.STORED, 2);
        Check.due("TAKEN", Gridpeer.TAKEN, 3);
        Check.due("BOUGHT", Gridpeer.BOUGHT, 4);
        Check.due("SOLD", Gridpeer.SOLD, 5);
    }

    private static void shape() {
        int modifiers = Gridpeer.class.getModifiers();
        Check.due("public final", Modifier.isPublic(modifiers) && Modifier.isFinal(modifiers), true);
        Check.due("package", Gridpeer.class.getPackageName().isEmpty(), true);
        Constructor<?>[] constructors = Gridpeer.class.getDeclaredConstructors();
        Check.due("constructors", constructors.length, 1);
        Check.due("public constructor", Modifier.isPublic(constructors[0].getModifiers()), true);
        Check.due("its parameters", constructors[0].getParameterCount(), 0);
        int constants = 0;
        for (Field field : Gridpeer.class.getDeclaredFields()) {
            int kind = field.getModifiers();
            boolean constant = Modifier.isPublic(kind) && Modifier.isStatic(kind) && Modifier.isFinal(kind);
            constants += constant ? 1 : 0;
            Check.due(field.getName() + " is private or a constant", constant || Modifier.isPrivate(kind), true);
            Check.due(field.getName() + " is no static state",
                    !Modifier.isStatic(kind) || Modifier.isFinal(kind), true);
        }
        Check.due("constants", constants, 6);
    }

    private static void methods() {
        Set<String> seen = new TreeSet<>();
        Set<String> names = new HashSet<>();
        for (Method method : Gridpeer.class.getDeclaredMethods()) {
            if (!Modifier.isPrivate(method.getModifiers())) {
                Check.due(method.getName() + " is public", Modifier.isPublic(method.getModifiers()), true);
                Check.due(method.getName() + " is not static", Modifier.isStatic(method.getModifiers()), false);
                seen.add(written(method));
                names.add(method.getName());
            }
        }
        Set<String> due = new TreeSet<>(Arrays.asList(METHODS));
        Check.due("methods of the face " + seen, seen.equals(due), true);
        for (Method method : Gridpeer.class.getDeclaredMethods()) {
            if (Modifier.isPrivate(method.getModifiers())) {
                Check.due(method.getName() + " bears a public name", names.contains(method.getName()), false);
            }
        }
    }

    private static String written(Method method) {
        StringBuilder text = new StringBuilder(method.getReturnType().getName());
        text.append(' ').append(method.getName()).append('(').append(listed(method.getParameterTypes())).append(')');
        if (method.getExceptionTypes().length > 0) {
            text.append(" throws ").append(listed(method.getExceptionTypes()).replace(",", ", "));
        }
        return text.toString();
    }

    private static String listed(Class<?>[] kinds) {
        StringBuilder text = new StringBuilder();
        for (Class<?> kind : kinds) {
            text.append(text.length() == 0 ? "" : ",").append(kind.getSimpleName());
        }
        return text.toString();
    }
}
