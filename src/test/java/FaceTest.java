import com.sun.management.ThreadMXBean;
import java.lang.management.ManagementFactory;
import java.lang.reflect.Constructor;
import java.lang.reflect.Field;
import java.lang.reflect.Method;
import java.lang.reflect.Modifier;
import java.util.Set;
import java.util.TreeSet;

/** The public face is the document's and no more; and calls leave no objects behind. */
public final class FaceTest {
    private static final String BOUNDS = " throws IndexOutOfBoundsException";
    private static final String ARGUMENT = " throws IllegalArgumentException";
    private static final String[] FACE = {
        "void open(1)" + ARGUMENT,
        "void contract(3)" + BOUNDS + ARGUMENT,
        "void before(3)" + BOUNDS + ARGUMENT,
        "int need(3)" + BOUNDS + ARGUMENT,
        "int cost(4)" + BOUNDS + ARGUMENT,
        "int pair(4)" + BOUNDS + ARGUMENT,
        "int fix(3)" + BOUNDS + ARGUMENT,
        "int days(0)",
        "int lines(1)" + BOUNDS,
        "int line(1)" + BOUNDS,
        "int least(0)",
        "int best(2)" + BOUNDS + " throws NoSuchElementException",
        "int raise(1)" + ARGUMENT + " throws IllegalStateException",
        "int bound(0)",
        "int price(2)" + BOUNDS,
        "int adopt(0) throws NoSuchElementException",
        "int repair(0) throws IllegalStateException throws NoSuchElementException",
        "int planned(2)" + BOUNDS,
        "int check(0)",
    };

    public static void main(String[] args) {
        theMethods();
        theOtherMembers();
        callsMakeNoObjects();
        Expect.end();
    }

    private static void theMethods() {
        Set<String> due = new TreeSet<>(Set.of(FACE));
        Set<String> names = new TreeSet<>();
        Set<String> got = new TreeSet<>();
        for (Method method : WardRoster.class.getDeclaredMethods()) {
            if (!Modifier.isPrivate(method.getModifiers())) {
                got.add(describe(method));
                names.add(method.getName());
                Expect.same(method + " modifiers", method.getModifiers(), Modifier.PUBLIC);
            }
        }
        Expect.same("the methods", got.toString(), due.toString());
        for (Method method : WardRoster.class.getDeclaredMethods()) {
            boolean isHidden = Modifier.isPrivate(method.getModifiers());
            Expect.that(method + " has a name of its own",
                    !isHidden || !names.contains(method.getName()));
        }
    }

    private static String describe(Method method) {
        StringBuilder text = new StringBuilder();
        text.append(method.getReturnType()).append(' ').append(method.getName());
        text.append('(').append(method.getParameterCount()).append(')');
        for (Class<?> thrown : method.getExceptionTypes()) {
            text.append(" throws ").append(thrown.getSimpleName());
        }
        for (Class<?> type : method.getParameterTypes()) {
            Expect.that(method + " takes ints", type == int.class);
        }
        return text.toString();
    }

    private static void theOtherMembers() {
        Class<?> face = WardRoster.class;
        Expect.same("the class", face.getModifiers(), Modifier.PUBLIC | Modifier.FINAL);
        Constructor<?>[] makers = face.getDeclaredConstructors();
        Expect.same("constructors", makers.length, 1);
        Expect.same("constructor", makers[0].getModifiers(), Modifier.PUBLIC);
        Expect.same("constructor's parameters", makers[0].getParameterCount(), 0);
        for (Field field : face.getDeclaredFields()) {
            int modifiers = field.getModifiers();
            boolean isNone = field.getName().equals("NONE");
            Expect.that(field + " is private or NONE", isNone || Modifier.isPrivate(modifiers));
            Expect.that(field + " is no static state",
                    !Modifier.isStatic(modifiers) || Modifier.isFinal(modifiers));
            Expect.that(field + " is a public constant", !isNone
                    || modifiers == (Modifier.PUBLIC | Modifier.STATIC | Modifier.FINAL));
        }
        for (Class<?> inside : face.getDeclaredClasses()) {
            int modifiers = inside.getModifiers();
            Expect.that(inside + " is private and static",
                    Modifier.isPrivate(modifiers) && Modifier.isStatic(modifiers));
        }
    }

    /** All calls of a run share a room of fixed size, so 512 of them may not fill it. */
    private static void callsMakeNoObjects() {
        WardRoster x = new WardRoster();
        ThreadMXBean threads = (ThreadMXBean) ManagementFactory.getThreadMXBean();
        callAll(x);
        long thread = Thread.currentThread().getId();
        long before = threads.getThreadAllocatedBytes(thread);
        for (int i = 0; i < 24; i++) {
            callAll(x);
        }
        long made = threads.getThreadAllocatedBytes(thread) - before;
        Expect.that("480 calls make no rows, but made " + made + " bytes", made < 20_000);
    }

    private static void callAll(WardRoster x) {
        x.open(6);
        x.contract(0, 1, 4);
        x.before(0, 1, 2);
        x.need(0, 1, 1);
        x.cost(0, 0, 0, 7);
        x.pair(0, 0, 1, 7);
        x.fix(0, 0, 1);
        x.days();
        x.lines(0);
        x.line(0);
        x.least();
        x.best(0, 0);
        x.raise(12);
        x.bound();
        x.price(0, 1);
        x.adopt();
        x.cost(0, 0, 1, 9);
        x.repair();
        x.planned(0, 0);
        x.check();
    }
}
