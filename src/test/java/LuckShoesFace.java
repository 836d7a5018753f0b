import java.lang.reflect.Constructor;
import java.lang.reflect.Field;
import java.lang.reflect.Method;
import java.lang.reflect.Modifier;
import java.util.Arrays;
import java.util.HashSet;
import java.util.Set;
import java.util.TreeSet;

/** The document's face, and no other member that could be seen from outside. */
public final class LuckShoesFace {
    private static final String[] METHODS = {
        "int person(int)", "int people(int,int,int)", "int mend(int,int,int)", "int of(int,int)", "int feed(int)",
        "int law()", "int runs(int)", "int later(int,int,int)", "int all(int,int)", "int still()",
        "int rich(int,int)", "int sink(int,int)", "long basin(int)", "int fall(int,int,int)",
        "int shoes(int,int,int)", "int seat(int,int,int)", "int judge(int,int)", "int seen(int,int,int)",
        "int bets(int,int)", "long margin(int,int)", "int byTurns(int,int,int)", "int drawn(int,int,int)",
        "int hour()", "int pour(int,int)", "int hang(int,int)", "int moves(int,int)", "int led(int)",
        "int image()", "int back()", "int undo()", "int redo()", "int body(int)", "int act(int,int,int)",
        "int trace(int)", "int keep(int,int)", "int row(int,int,int)", "int put(int,int,long)",
        "long element(int,int)", "int shift(int,int,int,int,int)", "int taken(int,int)", "int count(int)",
    };
    private static int wrong = 0;

    private static void look(boolean right, String what) {
        if (!right) {
            wrong++;
            System.out.println("not as it should be: " + what);
        }
    }

    private static void constant(String name, int value) throws ReflectiveOperationException {
        Field field = LuckShoes.class.getDeclaredField(name);
        look(field.getModifiers() == (Modifier.PUBLIC | Modifier.STATIC | Modifier.FINAL)
            && field.getType() == int.class && field.getInt(null) == value, name);
    }

    private static String head(Method method) {
        StringBuilder head = new StringBuilder(method.getReturnType() + " " + method.getName() + "(");
        for (Class<?> type : method.getParameterTypes()) {
            head.append(head.charAt(head.length() - 1) == '(' ? "" : ",").append(type);
        }
        return head.append(")").toString();
    }

    public static void main(String[] args) throws ReflectiveOperationException {
        Class<?> shoes = LuckShoes.class;
        look(shoes.getModifiers() == (Modifier.PUBLIC | Modifier.FINAL), "public final class");
        look(shoes.getSuperclass() == Object.class && shoes.getInterfaces().length == 0, "no class above it");
        constant("BAD", -1);
        constant("NOT", -2);
        constant("FULL", -3);
        constant("STATE", -5);
        constant("VOID", -2000000000);
        Set<String> constants = new HashSet<>(Arrays.asList("BAD", "NOT", "FULL", "STATE", "VOID"));
        for (Field field : shoes.getDeclaredFields()) {
            look(constants.contains(field.getName()) || Modifier.isPrivate(field.getModifiers()), field.toString());
        }
        Constructor<?>[] made = shoes.getDeclaredConstructors();
        look(made.length == 1 && Modifier.isPublic(made[0].getModifiers()) && made[0].getParameterCount() == 0,
            "one constructor");
        Set<String> heads = new TreeSet<>();
        Set<String> names = new TreeSet<>();
        for (Method method : shoes.getDeclaredMethods()) {
            if (Modifier.isPublic(method.getModifiers())) {
                heads.add(head(method));
                names.add(method.getName());
                look(method.getModifiers() == Modifier.PUBLIC, "public alone: " + method);
            } else {
                look(Modifier.isPrivate(method.getModifiers()), method.toString());
            }
        }
        look(heads.equals(new TreeSet<>(Arrays.asList(METHODS))), "the methods: " + heads);
        look(heads.size() == 41, "41 methods");
        for (Class<?> inside : shoes.getDeclaredClasses()) {
            look(Modifier.isStatic(inside.getModifiers()) && !Modifier.isPublic(inside.getModifiers())
                && !Modifier.isProtected(inside.getModifiers()), inside.toString());
            for (Method method : inside.getDeclaredMethods()) {
                look(!names.contains(method.getName()), "a method with a name of the face: " + method);
            }
        }
        for (Method method : shoes.getDeclaredMethods()) {
            look(!Modifier.isPrivate(method.getModifiers()) || !names.contains(method.getName()), method.toString());
        }
        System.out.println("the face: " + wrong + " wrong");
        if (wrong != 0) {
            System.exit(1);
        }
    }
}
