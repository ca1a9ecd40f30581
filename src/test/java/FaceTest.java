import java.lang.reflect.Constructor;
import java.lang.reflect.Field;
import java.lang.reflect.Member;
import java.lang.reflect.Method;
import java.lang.reflect.Modifier;
import java.util.ArrayList;
import java.util.Arrays;
import java.util.List;
import java.util.TreeSet;

/** The class shows the document's face and nothing else (rule 1 of LANGUAGE.md). */
public final class FaceTest {
    private static final String INDEX = "IndexOutOfBoundsException";
    private static final String ARGUMENT = "IllegalArgumentException";
    private static final String STATE = "IllegalStateException";
    private static final String UNSUPPORTED = "UnsupportedOperationException";
    private static final String ALL = String.join(",", INDEX, ARGUMENT, STATE, UNSUPPORTED);

    private static final String[] METHODS = {
        "int variable(int) " + String.join(",", ARGUMENT, STATE, UNSUPPORTED),
        "int two(int,int,int,int) " + ALL,
        "int three(int,int,int,int) " + ALL,
        "int different(int) " + String.join(",", ARGUMENT, STATE, UNSUPPORTED),
        "int pair(int,int) " + ARGUMENT,
        "int table(int,int) " + ALL,
        "boolean guess(int,int,boolean) " + ALL,
        "int back() " + STATE,
        "int domain(int) " + INDEX,
        "boolean isImplied(int) " + INDEX,
        "int solutions() ",
        "int value(int,int) " + INDEX,
        "int extreme(int,boolean) " + INDEX,
        "int told(int) ",
    };

    private static int wrong = 0;

    private static void due(String what, Object got, Object want) {
        if (!got.equals(want)) {
            wrong++;
            System.out.println(what + ": " + got + ", due is " + want);
        }
    }

    private static String namesOf(Class<?>[] types) {
        List<String> names = new ArrayList<>();
        for (Class<?> type : types) {
            names.add(type.getSimpleName());
        }
        return String.join(",", names);
    }

    private static boolean isSeen(Member member) {
        return !member.isSynthetic() && !Modifier.isPrivate(member.getModifiers());
    }

    private static void methods() {
        TreeSet<String> seen = new TreeSet<>();
        TreeSet<String> hidden = new TreeSet<>();
        for (Method method : DomainDesk.class.getDeclaredMethods()) {
            if (isSeen(method)) {
                seen.add(method.getReturnType().getSimpleName() + " " + method.getName() + "("
                        + namesOf(method.getParameterTypes()) + ") " + namesOf(method.getExceptionTypes()));
                due(method.getName() + " is public alone", method.getModifiers(), Modifier.PUBLIC);
            } else {
                hidden.add(method.getName());
            }
        }
        due("methods", seen, new TreeSet<>(Arrays.asList(METHODS)));
        for (String line : METHODS) {
            String name = line.substring(line.indexOf(' ') + 1, line.indexOf('('));
            due("a private method is named " + name, hidden.contains(name), false);
        }
    }

    private static void fieldsAndConstructors() {
        int constant = Modifier.PUBLIC | Modifier.STATIC | Modifier.FINAL;
        for (Field field : DomainDesk.class.getDeclaredFields()) {
            if (isSeen(field)) {
                due("a field that is seen", field.getName(), "NONE");
                due("NONE is a constant", field.getModifiers(), constant);
            } else if (Modifier.isStatic(field.getModifiers())) {
                due(field.getName() + " is final", Modifier.isFinal(field.getModifiers()), true);
            }
        }
        Constructor<?>[] constructors = DomainDesk.class.getDeclaredConstructors();
        due("constructors", constructors.length, 1);
        due("the constructor's parameters", constructors[0].getParameterCount(), 0);
        due("the constructor is public", constructors[0].getModifiers(), Modifier.PUBLIC);
    }

    private static void classes() {
        due("the class is public and final", DomainDesk.class.getModifiers(), Modifier.PUBLIC | Modifier.FINAL);
        for (Class<?> inside : DomainDesk.class.getDeclaredClasses()) {
            int modifiers = inside.getModifiers();
            due(inside.getSimpleName() + " is static", Modifier.isStatic(modifiers), true);
            due(inside.getSimpleName() + " is shown", Modifier.isPublic(modifiers) || Modifier.isProtected(modifiers), false);
        }
    }

    public static void main(String[] args) {
        methods();
        fieldsAndConstructors();
        classes();
        System.out.println(wrong == 0 ? "the face is as due" : wrong + " things are not as due");
        if (wrong != 0) {
            System.exit(1);
        }
    }
}
