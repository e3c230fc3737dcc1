import java.lang.reflect.Constructor;
import java.lang.reflect.Field;
import java.lang.reflect.Method;
import java.lang.reflect.Modifier;
import java.util.Set;
import java.util.TreeSet;

/** The public face: the constants, the constructor and the methods of the document, no others. */
public final class FaceTest {
    private static final String[] METHODS = {
        "int type(int)", "int clear()", "int articles()", "int hand(int,int)", "int ship(int,int)",
        "int piece(int)", "int chases(int)", "int shares()", "int votes(int)", "int maroons(int)",
        "int hides(int,int)", "int finds(int)", "int undo()", "int now(int)", "int due(int)",
        "int holds(int)", "int deal(int)", "int raid(int)", "int odds(int,int,int)", "int won(int)",
        "int split(int)", "int band(int)", "int saw(int,int)", "int forget()", "int keen()",
        "int mark(int,int)", "int keep(int)", "int back(int)", "int count(int)", "long trace()",
    };

    public static void main(String[] args) {
        constants();
        methods();
        constructor();
        classesInside();
        Check.end();
    }

    private static void constants() {
        Check.due("BAD", -1, RingArticles.BAD);
        Check.due("STATE", -2, RingArticles.STATE);
        Check.due("FULL", -3, RingArticles.FULL);
        Check.due("NONE", -9, RingArticles.NONE);
        Check.due("NO", -1000000, RingArticles.NO);
        int open = 0;
        for (Field field : RingArticles.class.getDeclaredFields()) {
            open += Modifier.isPrivate(field.getModifiers()) ? 0 : 1;
        }
        Check.due("fields that are not private", 5, open);
    }

    private static void methods() {
        Set<String> open = new TreeSet<>();
        Set<String> closed = new TreeSet<>();
        Set<String> names = new TreeSet<>();
        for (Method method : RingArticles.class.getDeclaredMethods()) {
            if (Modifier.isPrivate(method.getModifiers())) {
                closed.add(method.getName());
            } else {
                names.add(method.getName());
                open.add(signature(method));
            }
        }
        Check.due("methods that are not private", METHODS.length, open.size());
        for (String method : METHODS) {
            Check.due("there is " + method, 1, open.contains(method) ? 1 : 0);
        }
        closed.retainAll(names);
        Check.due("private methods named as public ones " + closed, 0, closed.size());
    }

    private static void constructor() {
        Constructor<?>[] all = RingArticles.class.getDeclaredConstructors();
        Check.due("constructors", 1, all.length);
        Check.due("the constructor's parameters", 0, all[0].getParameterCount());
        Check.due("the constructor is public", 1, Modifier.isPublic(all[0].getModifiers()) ? 1 : 0);
        int wanted = Modifier.PUBLIC | Modifier.FINAL;
        Check.due("the class is public and final", wanted, RingArticles.class.getModifiers() & wanted);
    }

    /** Rules 1, 2, 5 and 11 of ../shared/LANGUAGE.md, as far as they can be seen in the classes. */
    private static void classesInside() {
        Set<String> names = new TreeSet<>();
        for (String method : METHODS) {
            names.add(method.replaceAll("^\\w+ |\\(.*", ""));
        }
        fields(RingArticles.class);
        for (Class<?> inside : RingArticles.class.getDeclaredClasses()) {
            String name = inside.getSimpleName();
            int shown = inside.getModifiers() & (Modifier.PUBLIC | Modifier.PROTECTED | Modifier.STATIC);
            Check.due(name + " is static, neither public nor protected", Modifier.STATIC, shown);
            for (Method method : inside.getDeclaredMethods()) {
                Check.due(name + "." + method.getName() + " is named as no call is", 0,
                    names.contains(method.getName()) ? 1 : 0);
            }
            fields(inside);
        }
    }

    private static void fields(Class<?> owner) {
        int own = 0;
        for (Field field : owner.getDeclaredFields()) {
            boolean shared = Modifier.isStatic(field.getModifiers());
            own += shared ? 0 : 1;
            Check.due(owner.getSimpleName() + "." + field.getName() + " is static and not a final number", 0,
                shared && !(Modifier.isFinal(field.getModifiers()) && field.getType() == int.class) ? 1 : 0);
        }
        Check.due(owner.getSimpleName() + " has 20 fields at most, it has " + own, 1, own <= 20 ? 1 : 0);
    }

    private static String signature(Method method) {
        StringBuilder text = new StringBuilder();
        text.append(method.getReturnType()).append(' ').append(method.getName()).append('(');
        for (int i = 0; i < method.getParameterCount(); i++) {
            text.append(i == 0 ? "" : ",").append(method.getParameterTypes()[i]);
        }
        return text.append(')').toString();
    }
}
