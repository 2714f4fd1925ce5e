import java.lang.reflect.Constructor;
import java.lang.reflect.Field;
import java.lang.reflect.Method;
import java.lang.reflect.Modifier;
import java.util.Set;
import java.util.TreeSet;

/** Promise 1 and the public face: no instructions, all methods take owned, nothing was run. */
public final class Promise01NewTest {
    public static void main(String[] args) {
        constants();
        face();
        nothingWasRun();
        noInstructions();
        allTakeOwned();
        objectsAreApart();
        Checks.finish();
    }

    private static void constants() {
        Checks.due("BAD", ArcDesk.BAD, -1);
        Checks.due("FULL", ArcDesk.FULL, -2);
        Checks.due("DONE", ArcDesk.DONE, 0);
        Checks.due("FAILED", ArcDesk.FAILED, 1);
        Checks.due("LONG", ArcDesk.LONG, 2);
    }

    private static void face() {
        Set<String> open = new TreeSet<>();
        for (Field field : ArcDesk.class.getDeclaredFields()) {
            if (!Modifier.isPrivate(field.getModifiers())) {
                open.add(field.getName());
            }
        }
        for (Method method : ArcDesk.class.getDeclaredMethods()) {
            if (!Modifier.isPrivate(method.getModifiers())) {
                open.add(method.getName() + method.getParameterCount());
            }
        }
        for (Constructor<?> constructor : ArcDesk.class.getDeclaredConstructors()) {
            open.add("constructor" + constructor.getParameterCount());
        }
        Set<String> want = new TreeSet<>(Set.of("BAD", "FULL", "DONE", "FAILED", "LONG", "constructor0",
                "method2", "add5", "set3", "plan2", "run2", "out1", "ended1", "count1", "field2", "state1"));
        Checks.holds("the face is " + open, open.equals(want));
        Checks.holds("the class is final", Modifier.isFinal(ArcDesk.class.getModifiers()));
    }

    private static void nothingWasRun() {
        Desk desk = new Desk();
        Checks.dueState("new", desk, 0, 0, 0, 0, 0, 0, 0, 0, 0, -1);
        Checks.due("new: out(0)", desk.out(0), 0);
        Checks.due("new: ended(0)", desk.ended(0), 0);
        Checks.due("new: count(1)", desk.count(1), 0);
        Checks.due("new: field(1, 0)", desk.field(1, 0), 0);
    }

    private static void noInstructions() {
        Desk desk = new Desk();
        for (int m = 0; m < 4; m++) {
            Checks.due("new: plan", desk.plan(m, 0), ArcDesk.BAD);
            Checks.due("new: set", desk.set(m, 0, 0), ArcDesk.BAD);
            Checks.due("new: run", desk.run(Checks.SHORT, m), ArcDesk.FAILED);
            Checks.due("new: method", desk.method(m, Checks.OWNED), 0);
        }
    }

    private static void allTakeOwned() {
        Desk desk = new Desk();
        for (int m = 0; m < 4; m++) {
            desk.add(m, Checks.CALL, 1, 0, m);
            Checks.due("new: a call hands over to method " + m, desk.plan(m, 0), 2);
            Checks.due("new: method " + m + " keeps what it is called with", desk.set(m, 0, 1), 1);
        }
    }

    private static void objectsAreApart() {
        Desk one = new Desk();
        Desk other = new Desk();
        one.add(0, Checks.NEW, 0, 0, 1);
        one.run(Checks.PLAIN, 0);
        Checks.due("other: set", other.set(0, 0, 0), ArcDesk.BAD);
        Checks.due("other: state(6)", other.state(6), 0);
    }
}
