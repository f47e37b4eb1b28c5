import java.lang.reflect.Constructor;
import java.lang.reflect.Field;
import java.lang.reflect.Method;
import java.lang.reflect.Modifier;
import java.util.ArrayList;
import java.util.List;
import java.util.TreeSet;

/** The public face: what the document names, and nothing else that can be seen from outside. */
public final class FaceTest {
    private static final String[] FACE = {
        "boolean day(int)", "boolean land(int,boolean)", "boolean lost(int,int,int,int)", "boolean set(int,int)",
        "int ice(int,int,boolean)", "int shut(int,int,int)", "int teller(int,int)",
        "int find(int,int,int,int,int,int,int)", "boolean doubt(int,boolean)", "int found(int,int)",
        "int kept(int,int)", "int fits(int)", "int most(int,int)", "int at(int,int,int)", "int sure(int,int)",
        "int ends(int)", "int move(int)", "int clear()", "int judge(int)", "int alive(int)",
        "int chance(int,int,int)", "int left(int,int)", "int lead(int,int,int,int)", "int ship(int,int,int)",
        "int trip(int,int)", "int best(int)", "int feed(int,int,int,int,int)", "int rules(int)", "int beside(int)",
        "int fault()", "boolean home(int,boolean)", "int would(int,int)", "int tried(int,int)",
        "int quarrel(int,int)", "int paid(int,int)", "int count(int)"
    };

    public static void main(String[] args) {
        Check check = new Check("FaceTest");
        TreeSet<String> seen = new TreeSet<>();
        List<String> names = new ArrayList<>();
        for (Method method : IceSearch.class.getDeclaredMethods()) {
            if (Modifier.isPrivate(method.getModifiers())) {
                names.add(method.getName());
            } else {
                check.that(method.getName() + " is public", Modifier.isPublic(method.getModifiers()));
                seen.add(told(method));
            }
        }
        check.that("the methods are the document's: " + seen, seen.equals(new TreeSet<>(List.of(FACE))));
        for (String face : FACE) {
            String name = face.substring(face.indexOf(' ') + 1, face.indexOf('('));
            check.that("no private method is named " + name, !names.contains(name));
        }
        checkOthers(check);
        check.end();
    }

    private static String told(Method method) {
        StringBuilder text = new StringBuilder(method.getReturnType().getName() + " " + method.getName() + "(");
        for (int i = 0; i < method.getParameterCount(); i++) {
            text.append(i == 0 ? "" : ",").append(method.getParameterTypes()[i].getName());
        }
        return text.append(")").toString();
    }

    private static void checkOthers(Check check) {
        for (Field field : IceSearch.class.getDeclaredFields()) {
            boolean hidden = Modifier.isPrivate(field.getModifiers());
            check.that("field " + field.getName(), hidden || field.getName().equals("NONE"));
        }
        check.due("NONE", IceSearch.NONE, -1);
        check.that("the class is final", Modifier.isFinal(IceSearch.class.getModifiers()));
        Constructor<?>[] constructors = IceSearch.class.getDeclaredConstructors();
        check.due("constructors", constructors.length, 1);
        check.that("its constructor is public", Modifier.isPublic(constructors[0].getModifiers()));
        check.due("its parameters", constructors[0].getParameterCount(), 0);
        for (Class<?> inside : IceSearch.class.getDeclaredClasses()) {
            boolean fine = Modifier.isStatic(inside.getModifiers()) && !Modifier.isPublic(inside.getModifiers())
                && !Modifier.isProtected(inside.getModifiers());
            check.that(inside.getName() + " is static and hidden", fine);
        }
    }
}
