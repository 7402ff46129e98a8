import java.lang.reflect.Constructor;
import java.lang.reflect.Field;
import java.lang.reflect.Method;
import java.lang.reflect.Modifier;
import java.util.Set;
import java.util.TreeSet;

/** The face of the class: what the document tells, and nothing else that is not private. */
public final class FaceTest {
    private static final String[] FACE = {
        "int valley(int,int)", "int put(int,int,int)", "int fee(int,int)", "int maker(int,int,int)",
        "int leave(int,int,int,int,int)", "int take(int)", "int undo()", "int about(int,int)", "int type(int)",
        "int clear()", "int read()", "int heard(int,int,int,int)", "int far(int,int,int)", "int cost(int,int,int)",
        "int trespass(int,int,int,int)", "int carried(int,int,int,int)", "long mend(int,int,int)", "int ears(int,int)",
        "int buy(int,int,int,int)", "int who(int,int)", "int still(int,int,int)", "int cry(int,int)",
        "int criers(int,int,int,int)", "int let(int,int)", "int liable(int)", "int rings()",
        "int first(int,int,int,int)", "int peal(int,int,int)", "int thunder(int,int)", "int image(int)",
        "int from(int)", "int status(int)", "int count(int)", "long digest()"};

    private static int wrong = 0;

    public static void main(String[] args) {
        holds("the class is public and final", LentAir.class.getModifiers() == (Modifier.PUBLIC | Modifier.FINAL));
        Set<String> want = new TreeSet<>(Set.of(FACE));
        Set<String> names = new TreeSet<>();
        for (String face : FACE) {
            names.add(face.substring(face.indexOf(' ') + 1, face.indexOf('(')));
        }
        methods(want, names);
        fields();
        Constructor<?>[] made = LentAir.class.getDeclaredConstructors();
        holds("one public constructor without arguments",
            made.length == 1 && made[0].getModifiers() == Modifier.PUBLIC && made[0].getParameterCount() == 0);
        for (Class<?> inside : LentAir.class.getDeclaredClasses()) {
            int m = inside.getModifiers();
            holds(inside + " is static, not public", Modifier.isStatic(m) && !Modifier.isPublic(m) && !Modifier.isProtected(m));
            holds(inside + " has at most twenty fields", instanceFields(inside) <= 20);
            for (Method method : inside.getDeclaredMethods()) {
                holds(method + " has no name of the face", !names.contains(method.getName()));
                holds(method + " takes at most seven", method.getParameterCount() <= 7);
            }
        }
        System.out.println(wrong == 0 ? "the face is as told" : wrong + " things are not as told");
        if (wrong != 0) {
            System.exit(1);
        }
    }

    private static void methods(Set<String> want, Set<String> names) {
        for (Method method : LentAir.class.getDeclaredMethods()) {
            StringBuilder told = new StringBuilder(method.getReturnType() + " " + method.getName() + "(");
            for (Class<?> type : method.getParameterTypes()) {
                told.append(told.charAt(told.length() - 1) == '(' ? "" : ",").append(type);
            }
            told.append(')');
            if (Modifier.isPrivate(method.getModifiers())) {
                holds(told + " has no name of the face", !names.contains(method.getName()));
                holds(told + " takes at most seven", method.getParameterCount() <= 7);
            } else {
                holds(told + " is of the face, public", want.remove(told.toString()) && method.getModifiers() == Modifier.PUBLIC);
            }
        }
        holds("all methods are there, but " + want, want.isEmpty());
    }

    private static void fields() {
        Set<String> constants = new TreeSet<>(Set.of("NONE", "BAD", "NO", "FULL"));
        for (Field field : LentAir.class.getDeclaredFields()) {
            int m = field.getModifiers();
            if (!Modifier.isPrivate(m)) {
                holds(field + " is a constant of the face", constants.remove(field.getName()) && field.getType() == int.class
                    && m == (Modifier.PUBLIC | Modifier.STATIC | Modifier.FINAL));
            }
            holds(field + " is no static state", !Modifier.isStatic(m) || Modifier.isFinal(m));
        }
        holds("all constants are there, but " + constants, constants.isEmpty());
        holds("LentAir has at most twenty fields", instanceFields(LentAir.class) <= 20);
    }

    private static int instanceFields(Class<?> of) {
        int n = 0;
        for (Field field : of.getDeclaredFields()) {
            n += Modifier.isStatic(field.getModifiers()) ? 0 : 1;
        }
        return n;
    }

    private static void holds(String what, boolean is) {
        if (!is) {
            wrong++;
            System.out.println("it does not hold that " + what);
        }
    }
}
