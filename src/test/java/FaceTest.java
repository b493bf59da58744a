import java.lang.reflect.Constructor;
import java.lang.reflect.Field;
import java.lang.reflect.Method;
import java.lang.reflect.Modifier;
import java.util.Set;
import java.util.TreeSet;

/** The public face of the document, and the rules of LANGUAGE.md that the compiled class shows. */
public final class FaceTest {
    private static final String[] CONSTANTS = {
        "OK=0", "ERR_PHASE=-1", "ERR_ARG=-2", "ERR_FULL=-3", "ERR_QUERY=-4", "ERR_UNUSED=-5",
        "PHASE_CONFIG=0", "PHASE_RUNNING=1", "WIN_RANGE=1", "WIN_ROWS=2",
        "FIELD_KEY=0", "FIELD_VALUE=1",
        "OP_NONE=0", "OP_EQ=1", "OP_NE=2", "OP_LT=3", "OP_GT=4",
        "AGG_NONE=0", "AGG_COUNT=1", "AGG_SUM=2",
        "OUT_ISTREAM=1", "OUT_DSTREAM=2", "OUT_RSTREAM=3", "ROW_OUT=0", "ROW_REL=1",
        "INFO_NOW=0", "INFO_PHASE=1", "INFO_OUT_COUNT=2", "INFO_REL_COUNT=3",
        "INFO_HELD0=4", "INFO_HELD1=5", "INFO_WIN_KIND0=6", "INFO_WIN_SIZE0=7",
        "INFO_WIN_KIND1=8", "INFO_WIN_SIZE1=9",
        "INFO_FILTER_OP0=10", "INFO_FILTER_FIELD0=11", "INFO_FILTER_CONST0=12",
        "INFO_FILTER_OP1=13", "INFO_FILTER_FIELD1=14", "INFO_FILTER_CONST1=15",
        "INFO_JOIN=16", "INFO_PROJECT=17", "INFO_AGG=18", "INFO_AGG_COL=19",
        "INFO_OUTPUT=20", "INFO_CAP=21"};

    private static final String[] METHODS = {
        "reset/0", "setWindow/3", "setFilter/4", "setJoin/1", "setProject/1", "setAggregate/2",
        "setOutput/1", "compile/0", "arrive/3", "step/0", "info/1", "row/3", "stored/2"};

    public static void main(String[] args) throws IllegalAccessException {
        constantsAreTheDocuments();
        methodsAreTheDocuments();
        constructorIsTheDocuments();
        fieldsKeepToTheLanguage();
        Due.end();
    }

    private static void constantsAreTheDocuments() throws IllegalAccessException {
        Set<String> got = new TreeSet<>();
        for (Field field : ContinuousQuery.class.getDeclaredFields()) {
            if (Modifier.isPublic(field.getModifiers())) {
                int wanted = Modifier.PUBLIC | Modifier.STATIC | Modifier.FINAL;
                Due.due("modifiers of " + field.getName(), field.getModifiers(), wanted);
                Due.same("type of " + field.getName(), field.getType(), int.class);
                got.add(field.getName() + "=" + field.getInt(null));
            } else {
                isPrivate(field.getName(), field.getModifiers());
            }
        }
        Due.same("the public constants", got, new TreeSet<>(Set.of(CONSTANTS)));
    }

    private static void methodsAreTheDocuments() {
        Set<String> got = new TreeSet<>();
        Set<String> publicNames = new TreeSet<>();
        for (Method method : ContinuousQuery.class.getDeclaredMethods()) {
            if (Modifier.isPublic(method.getModifiers())) {
                Due.due("modifiers of " + method.getName(), method.getModifiers(), Modifier.PUBLIC);
                Due.same("answer of " + method.getName(), method.getReturnType(), int.class);
                allInts(method.getName(), method.getParameterTypes());
                got.add(method.getName() + "/" + method.getParameterCount());
                publicNames.add(method.getName());
            }
        }
        Due.same("the public methods", got, new TreeSet<>(Set.of(METHODS)));
        for (Method method : ContinuousQuery.class.getDeclaredMethods()) {
            if (!Modifier.isPublic(method.getModifiers())) {
                isPrivate(method.getName(), method.getModifiers());
                Due.same("a public name for " + method, publicNames.contains(method.getName()), false);
                Due.same("at most seven parameters in " + method, method.getParameterCount() <= 7, true);
                Due.same("an array answered by " + method, method.getReturnType().isArray(), false);
            }
        }
    }

    private static void constructorIsTheDocuments() {
        Constructor<?>[] constructors = ContinuousQuery.class.getDeclaredConstructors();
        Due.due("number of constructors", constructors.length, 1);
        Due.due("modifiers of the constructor", constructors[0].getModifiers(), Modifier.PUBLIC);
        Due.due("its parameters", constructors[0].getParameterCount(), 1);
        allInts("the constructor", constructors[0].getParameterTypes());
        int wanted = Modifier.PUBLIC | Modifier.FINAL;
        Due.due("modifiers of the class", ContinuousQuery.class.getModifiers(), wanted);
        Due.same("superclass", ContinuousQuery.class.getSuperclass(), Object.class);
        Due.due("interfaces", ContinuousQuery.class.getInterfaces().length, 0);
        Due.due("nested classes", ContinuousQuery.class.getDeclaredClasses().length, 0);
        Due.same("package", ContinuousQuery.class.getPackageName(), "");
    }

    private static void fieldsKeepToTheLanguage() {
        Set<Class<?>> numbers = Set.of(int.class, long.class, short.class, byte.class, char.class, boolean.class);
        int count = 0;
        for (Field field : ContinuousQuery.class.getDeclaredFields()) {
            Class<?> type = field.getType();
            boolean isStatic = Modifier.isStatic(field.getModifiers());
            boolean fine = numbers.contains(type) || !isStatic && type.isArray() && numbers.contains(type.getComponentType());
            Due.same("a type of the language for " + field, fine, true);
            if (isStatic) {
                Due.same("final " + field, Modifier.isFinal(field.getModifiers()), true);
            } else {
                count++;
            }
        }
        Due.same("at most forty fields", count <= 40, true);
    }

    private static void isPrivate(String name, int modifiers) {
        Due.same("private " + name, Modifier.isPrivate(modifiers), true);
    }

    private static void allInts(String name, Class<?>[] types) {
        for (Class<?> type : types) {
            Due.same("type of a parameter of " + name, type, int.class);
        }
    }
}
