import java.lang.reflect.Constructor;
import java.lang.reflect.Field;
import java.lang.reflect.Member;
import java.lang.reflect.Method;
import java.lang.reflect.Modifier;
import java.util.Arrays;
import java.util.Set;
import java.util.TreeSet;

/** The public face is the document's and no more, and no private method bears the name of a public one. */
public final class ChainDeskFaceTest {
    private static final Set<String> FACE = Set.of(
        "int add[int]", "int remove[int]", "int count[int]", "int simplex[int, int]", "int boundary[int, int]",
        "int holes[int]", "int filled[int, int]", "int filling[int, int]", "int least[int, int]", "int alternating[]");

    private static int wrong = 0;

    private static void due(String what, Object got, Object want) {
        if (!got.equals(want)) {
            wrong++;
            System.out.println(what + " is " + got + ", due is " + want);
        }
    }

    private static void duePrivate(Member member) {
        due(member + ": private", Modifier.isPrivate(member.getModifiers()), true);
    }

    public static void main(String[] args) {
        Class<ChainDesk> desk = ChainDesk.class;
        due("the class's modifiers", desk.getModifiers(), Modifier.PUBLIC | Modifier.FINAL);
        due("nested classes", desk.getDeclaredClasses().length, 0);

        Constructor<?>[] constructors = desk.getDeclaredConstructors();
        due("constructors", constructors.length, 1);
        due("the constructor's modifiers", constructors[0].getModifiers(), Modifier.PUBLIC);
        due("the constructor's parameters", constructors[0].getParameterCount(), 0);

        Set<String> face = new TreeSet<>();
        Set<String> names = new TreeSet<>();
        for (Method method : desk.getDeclaredMethods()) {
            if (method.getModifiers() == Modifier.PUBLIC) {
                face.add(method.getReturnType() + " " + method.getName() + Arrays.toString(method.getParameterTypes()));
                names.add(method.getName());
            }
        }
        due("the public methods", face, new TreeSet<>(FACE));
        for (Method method : desk.getDeclaredMethods()) {
            if (method.getModifiers() != Modifier.PUBLIC) {
                duePrivate(method);
                due(method + ": named as a public one", names.contains(method.getName()), false);
            }
        }
        for (Field field : desk.getDeclaredFields()) {
            duePrivate(field);
        }
        System.out.println(wrong == 0 ? "the face is as due" : wrong + " things are not as due");
        if (wrong != 0) {
            System.exit(1);
        }
    }
}
