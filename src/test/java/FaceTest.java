import java.lang.reflect.Constructor;
import java.lang.reflect.Field;
import java.lang.reflect.Method;
import java.lang.reflect.Modifier;
import java.util.HashSet;
import java.util.Set;

/** The public face: the class, its constructor, methods and constants, and nothing else. */
public final class FaceTest {
    private static final String[] METHODS = {
        "int prime(int)", "int j(int,int)", "int tell(int,int,int)", "int sum(int,int,int)", "int times(int,int,int)",
        "int stretch(int,int,int)", "int over(int,int)", "int power(int,int,int)", "int of(int,int)", "int coefficient(int,int)",
        "int find(int,int,int,int)", "int equation(int)", "int term(int,int)", "int at(int,int)", "int vanishes(int,int)",
        "int neighbour(int,int)", "int far(int,int)", "int reach(int)", "int values(int)", "int keep(int)", "int drop(int)",
        "long joined(int,int)", "long whole()", "int feed(int)", "int deeds()", "int read()", "int write()", "int paper(int)",
        "int list(int,int)", "int put(int,int,int)", "long get(int,int)", "int lay(int,int)", "int judge(int,int)", "int image()",
        "int back()", "int count(int)",
    };
    private static final Class<?> FACE = LevelEquations.class;
    private static final Check check = new Check("FaceTest");

    public static void main(String[] args) {
        check.part("the constants: their values");
        constants();
        check.part("LANGUAGE.md, rule 1: the class is public and final, its constructor is public");
        check.due("public and final", FACE.getModifiers(), Modifier.PUBLIC | Modifier.FINAL);
        Constructor<?>[] constructors = FACE.getDeclaredConstructors();
        check.due("constructors", constructors.length, 1);
        check.holds("public LevelEquations()", Modifier.isPublic(constructors[0].getModifiers()) && constructors[0].getParameterCount() == 0);
        check.part("the public face: all methods of the document and no others");
        Set<String> names = methods();
        check.part("LANGUAGE.md, rule 1: what is not of the face is private, with a name of its own");
        hiddenMethods(names);
        check.part("LANGUAGE.md, rules 1 and 5: fields are private, constants are final");
        fields();
        check.part("LANGUAGE.md, rules 1 and 2: classes inside are private or package-visible, and static");
        for (Class<?> inner : FACE.getDeclaredClasses()) {
            check.holds(inner + " is hidden", !Modifier.isPublic(inner.getModifiers()) && !Modifier.isProtected(inner.getModifiers()));
            check.holds(inner + " is static", Modifier.isStatic(inner.getModifiers()));
        }
        check.holds("these are all", FACE.getEnclosingClass() == null);
        check.end();
    }

    private static void constants() {
        check.due("NONE", LevelEquations.NONE, -1);
        check.due("BAD", LevelEquations.BAD, -2);
        check.due("STATE", LevelEquations.STATE, -3);
        check.due("NOT", LevelEquations.NOT, -5);
        check.due("MISSING", LevelEquations.MISSING, -11);
        check.due("NO", LevelEquations.NO, Long.MIN_VALUE);
    }

    /** Checks the public methods, and returns their names. */
    private static Set<String> methods() {
        Set<String> due = new HashSet<>(Set.of(METHODS));
        check.due("methods of the document", due.size(), 36);
        Set<String> names = new HashSet<>();
        for (Method method : FACE.getDeclaredMethods()) {
            if (Modifier.isPublic(method.getModifiers())) {
                check.holds(signature(method) + " is of the document", due.remove(signature(method)));
                check.holds(signature(method) + " is a method of objects", !Modifier.isStatic(method.getModifiers()));
                names.add(method.getName());
            }
        }
        check.holds("all are there but " + due, due.isEmpty());
        return names;
    }

    private static String signature(Method method) {
        StringBuilder text = new StringBuilder(method.getReturnType() + " " + method.getName() + "(");
        for (Class<?> type : method.getParameterTypes()) {
            text.append(text.charAt(text.length() - 1) == '(' ? "" : ",").append(type);
        }
        return text.append(")").toString();
    }

    private static void hiddenMethods(Set<String> names) {
        check.due("names of public methods", names.size(), 36);
        for (Method method : FACE.getDeclaredMethods()) {
            if (!Modifier.isPublic(method.getModifiers()) && !method.isSynthetic()) {
                check.holds(method + " is private", Modifier.isPrivate(method.getModifiers()));
                check.holds(method + " bears a name of its own", !names.contains(method.getName()));
            }
        }
        for (Class<?> inner : FACE.getDeclaredClasses()) {
            for (Method method : inner.getDeclaredMethods()) {
                boolean isPrivate = Modifier.isPrivate(method.getModifiers());
                check.holds(method + " bears a name of its own", !isPrivate || !names.contains(method.getName()));
            }
        }
    }

    private static void fields() {
        int open = 0;
        for (Field field : FACE.getDeclaredFields()) {
            boolean isConstant = Modifier.isStatic(field.getModifiers()) && Modifier.isFinal(field.getModifiers());
            if (Modifier.isPublic(field.getModifiers())) {
                check.holds(field + " is static and final", isConstant);
                open++;
            } else {
                check.holds(field + " is private", Modifier.isPrivate(field.getModifiers()) || field.isSynthetic());
            }
            check.holds(field + ": what is static is final", !Modifier.isStatic(field.getModifiers()) || isConstant);
        }
        check.due("public constants", open, 6);
    }
}
