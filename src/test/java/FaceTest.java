import java.lang.reflect.Constructor;
import java.lang.reflect.Field;
import java.lang.reflect.Method;
import java.lang.reflect.Modifier;
import java.util.HashSet;
import java.util.Set;

/** The public face: the class, its constructor, methods and constants, and nothing else. */
public final class FaceTest {
    private static final String[] METHODS = {
        "int prime(int)", "int j(int,int)", "int tell(int,int,int)", "int sum(int,int,int)", "int times(int,int,int)",
        "int stretch(int,int,int)", "int over(int,int)", "int power(int,int,int)", "int of(int,int)", "int coefficient(int,int)",
        "int find(int,int,int,int)", "int equation(int)", "int term(int,int)", "int at(int,int)", "int vanishes(int,int)",
        "int neighbour(int,int)", "int far(int,int)", "int reach(int)", "int values(int)", "int keep(int)", "int drop(int)",
        "long joined(int,int)", "long whole()", "int feed(int)", "int deeds()", "int read()", "int write()", "int paper(int)",
        "int list(int,int)", "int put(int,int,int)", "long get(int,int)", "int lay(int,int)", "int judge(int,int)", "int image()",
        "int back()", "int count(int)",
    };
    private static final Check check = new Check("FaceTest");

    public static void main(String[] args) {
        check.part("the public face");
        constants();
        Class<?> face = LevelEquations.class;
        check.due("public and final", face.getModifiers(), Modifier.PUBLIC | Modifier.FINAL);
        Constructor<?>[] constructors = face.getDeclaredConstructors();
        check.due("constructors", constructors.length, 1);
        check.holds("public LevelEquations()", Modifier.isPublic(constructors[0].getModifiers()) && constructors[0].getParameterCount() == 0);
        Set<String> names = methods(face);
        fields(face);
        for (Class<?> inner : face.getDeclaredClasses()) {
            check.holds(inner + " is private and static", Modifier.isPrivate(inner.getModifiers()) && Modifier.isStatic(inner.getModifiers()));
            for (Method method : inner.getDeclaredMethods()) {
                check.holds(method + " bears a name of its own", !names.contains(method.getName()));
            }
        }
        check.end();
    }

    private static void constants() {
        check.due("NONE", LevelEquations.NONE, -1);
        check.due("BAD", LevelEquations.BAD, -2);
        check.due("STATE", LevelEquations.STATE, -3);
        check.due("NOT", LevelEquations.NOT, -5);
        check.due("MISSING", LevelEquations.MISSING, -11);
        check.due("NO", LevelEquations.NO, Long.MIN_VALUE);
    }

    private static Set<String> methods(Class<?> face) {
        Set<String> due = new HashSet<>(Set.of(METHODS));
        check.due("methods of the document", due.size(), 36);
        Set<String> names = new HashSet<>();
        for (Method method : face.getDeclaredMethods()) {
            if (Modifier.isPublic(method.getModifiers())) {
                check.holds(signature(method) + " is of the document", due.remove(signature(method)));
                check.due("modifiers of " + signature(method), method.getModifiers(), Modifier.PUBLIC);
                names.add(method.getName());
            }
        }
        check.holds("all are there but " + due, due.isEmpty());
        for (Method method : face.getDeclaredMethods()) {
            if (!Modifier.isPublic(method.getModifiers())) {
                check.holds(method + " is private", Modifier.isPrivate(method.getModifiers()));
                check.holds(method + " bears a name of its own", !names.contains(method.getName()));
            }
        }
        return names;
    }

    private static String signature(Method method) {
        StringBuilder text = new StringBuilder(method.getReturnType() + " " + method.getName() + "(");
        for (Class<?> type : method.getParameterTypes()) {
            text.append(text.charAt(text.length() - 1) == '(' ? "" : ",").append(type);
        }
        return text.append(")").toString();
    }

    private static void fields(Class<?> face) {
        int open = 0;
        for (Field field : face.getDeclaredFields()) {
            if (Modifier.isPublic(field.getModifiers())) {
                check.holds(field + " is static and final", Modifier.isStatic(field.getModifiers()) && Modifier.isFinal(field.getModifiers()));
                open++;
            } else {
                check.holds(field + " is private", Modifier.isPrivate(field.getModifiers()));
            }
            check.holds(field + ": what is static is final", !Modifier.isStatic(field.getModifiers()) || Modifier.isFinal(field.getModifiers()));
        }
        check.due("public constants", open, 6);
    }
}
