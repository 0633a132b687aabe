import java.lang.reflect.Constructor;
import java.lang.reflect.Field;
import java.lang.reflect.Method;
import java.lang.reflect.Modifier;
import java.util.Set;
import java.util.TreeSet;

/** What the document says under 'The public face': the constants with their values, the constructor, the methods, and nothing else. */
final class FaceTest {
    private static final String[] CONSTANTS = {
        "LIMIT=32", "NUM=1", "HEAD=2", "ADD=3", "SUB=4", "MUL=5", "CONS=6", "TAIL=7", "ZIPADD=8", "ZIPSUB=9", "ZIPMUL=10",
        "REF=11", "DEF=12", "SORT_NONE=0", "SORT_ELEM=1", "SORT_STREAM=2", "ACCEPTED=0", "OPEN=1", "EMPTY=2", "UNDEFINED=3",
        "UNGUARDED=4", "OK=0", "BLACKHOLE=1", "RANGE=2", "NOTREADY=3", "BADARG=4", "NONE=-1000000"};
    private static final String[] METHODS = {
        "void reset()", "boolean begin(int)", "boolean token(int,int)", "int pending()", "int slot(int)", "int openName()",
        "boolean defined(int)", "int used()", "int cellKind(int)", "int cellValue(int)", "int verdict()", "int guard(int,int)",
        "int eval(int,int)", "int value()", "int faultName()", "int faultIndex()"};

    public static void main(String[] args) throws IllegalAccessException {
        constants();
        methods();
        shape();
        Check.end();
    }

    private static void constants() throws IllegalAccessException {
        Set<String> got = new TreeSet<>();
        for (Field f : ProductiveStreams.class.getDeclaredFields()) {
            int m = f.getModifiers();
            if (Modifier.isPublic(m) && Modifier.isStatic(m) && Modifier.isFinal(m) && f.getType() == int.class) {
                got.add(f.getName() + "=" + f.getInt(null));
            } else {
                Check.due("field " + f.getName() + " is private", Modifier.isPrivate(m), true);
            }
        }
        Check.due("the constants", got.toString(), new TreeSet<>(Set.of(CONSTANTS)).toString());
    }

    private static void methods() {
        Set<String> got = new TreeSet<>();
        Set<String> publicNames = new TreeSet<>();
        for (Method m : ProductiveStreams.class.getDeclaredMethods()) {
            if (Modifier.isPublic(m.getModifiers())) {
                got.add(m.getReturnType() + " " + m.getName() + parameters(m.getParameterTypes()));
                publicNames.add(m.getName());
                Check.due("the modifiers of " + m.getName(), Modifier.toString(m.getModifiers()), "public");
                Check.due("the exceptions of " + m.getName(), m.getExceptionTypes().length, 0);
            }
        }
        Check.due("the public methods", got.toString(), new TreeSet<>(Set.of(METHODS)).toString());
        for (Method m : ProductiveStreams.class.getDeclaredMethods()) {
            if (!Modifier.isPublic(m.getModifiers())) {
                Check.due("method " + m.getName() + " is private", Modifier.isPrivate(m.getModifiers()), true);
                Check.due("method " + m.getName() + " bears a public name", publicNames.contains(m.getName()), false);
            }
        }
    }

    private static String parameters(Class<?>[] types) {
        StringBuilder b = new StringBuilder();
        for (Class<?> t : types) {
            b.append(b.length() == 0 ? "" : ",").append(t);
        }
        return "(" + b + ")";
    }

    private static void shape() {
        Class<?> c = ProductiveStreams.class;
        Check.due("the class is public and final", c.getModifiers(), Modifier.PUBLIC | Modifier.FINAL);
        Check.due("nested classes", c.getDeclaredClasses().length, 0);
        Check.due("the class it extends", c.getSuperclass().getName(), "java.lang.Object");
        Check.due("the interfaces it implements", c.getInterfaces().length, 0);
        Check.due("the package", c.getPackageName(), "");
        Constructor<?>[] made = c.getDeclaredConstructors();
        Check.due("constructors", made.length, 1);
        Check.due("the constructor", Modifier.toString(made[0].getModifiers()) + parameters(made[0].getParameterTypes()), "public(int,int)");
    }
}
