import java.lang.reflect.Constructor;
import java.lang.reflect.Field;
import java.lang.reflect.Method;
import java.lang.reflect.Modifier;
import java.util.TreeSet;

/** Promise 1, and the public face. */
public final class NewObjectTest {
    private static final Check CHECK = new Check("NewObjectTest");

    public static void main(String[] args) throws ReflectiveOperationException {
        everyTerminalIsOff();
        nothingIsKnownOrPlanned();
        superframeNoughtIsNext();
        objectsAreApart();
        theFaceIsTheDocuments();
        theFaceNamesWhatItThrows();
        CHECK.end();
    }

    private static void everyTerminalIsOff() {
        SharedUplink x = new SharedUplink();
        int[] due = {0, -1, 0, 0, 0, 1, 0};
        for (int t = 0; t < 5; t++) {
            for (int what = 0; what < due.length; what++) {
                CHECK.equal("terminal(" + t + ", " + what + ")", due[what], x.terminal(t, what));
            }
        }
    }

    private static void nothingIsKnownOrPlanned() {
        SharedUplink x = new SharedUplink();
        int[] due = {0, 0, 1, 0, 0};
        for (int t = 0; t < 5; t++) {
            for (int what = 0; what < due.length; what++) {
                CHECK.equal("centre(" + t + ", " + what + ")", due[what], x.centre(t, what));
            }
            CHECK.equal("places(t, 0)", 0, x.places(t, 0));
            CHECK.equal("places(t, 1)", 0, x.places(t, 1));
        }
        String nobody = "... ... ... ... ... ... ... ... ... ...";
        CHECK.equal("plan of superframe 0", nobody, Snapshot.plan(x, 0));
        CHECK.equal("plan of superframe 1", nobody, Snapshot.plan(x, 1));
        CHECK.equal("heard before the first", nobody, Snapshot.heard(x));
        CHECK.equal("missed()", 0, x.missed());
    }

    private static void superframeNoughtIsNext() {
        SharedUplink x = new SharedUplink();
        CHECK.equal("played()", 0, x.played());
        // the coins of superframe 0: 1 for the terminals 0, 3 and 4, 0 for 1 and 2
        for (int t = 0; t < 5; t++) {
            x.power(t, true);
        }
        x.play();
        int[] levels = {1, 0, 0, 1, 1};
        for (int t = 0; t < 5; t++) {
            CHECK.equal("level of " + t, levels[t], x.terminal(t, 1));
        }
    }

    private static void objectsAreApart() {
        SharedUplink x = new SharedUplink();
        SharedUplink y = new SharedUplink();
        String before = Snapshot.of(y);
        x.power(0, true);
        x.send(0, 3);
        x.drift(0, 2);
        x.play();
        x.play();
        CHECK.equal("the other object", before, Snapshot.of(y));
    }

    private static void theFaceIsTheDocuments() {
        String[] due = {
            "NONE:int", "SharedUplink()", "rates(int,int,int):void", "power(int,boolean):boolean",
            "drift(int,int):void", "send(int,int):int", "lose(int,int):void", "play():int",
            "played():int", "terminal(int,int):int", "centre(int,int):int",
            "plan(int,int,int):int", "places(int,int):int", "heard(int,int):int", "missed():int"
        };
        TreeSet<String> want = new TreeSet<>(java.util.List.of(due));
        TreeSet<String> got = new TreeSet<>();
        for (Field f : SharedUplink.class.getDeclaredFields()) {
            if (!Modifier.isPrivate(f.getModifiers())) {
                got.add(f.getName() + ":" + f.getType().getSimpleName());
            }
        }
        for (Constructor<?> c : SharedUplink.class.getDeclaredConstructors()) {
            got.add("SharedUplink(" + types(c.getParameterTypes()) + ")");
        }
        for (Method m : SharedUplink.class.getDeclaredMethods()) {
            if (!Modifier.isPrivate(m.getModifiers()) && !m.isSynthetic()) {
                got.add(m.getName() + "(" + types(m.getParameterTypes()) + "):"
                        + m.getReturnType().getSimpleName());
            }
        }
        CHECK.equal("the face", want.toString(), got.toString());
        CHECK.equal("NONE", -1, SharedUplink.NONE);
        CHECK.equal("modifiers of the class", Modifier.PUBLIC | Modifier.FINAL,
                SharedUplink.class.getModifiers());
    }

    private static void theFaceNamesWhatItThrows() throws ReflectiveOperationException {
        String argument = "IllegalArgumentException";
        String state = "IllegalStateException";
        thrown(argument, "rates", int.class, int.class, int.class);
        thrown(argument, "power", int.class, boolean.class);
        thrown(argument, "drift", int.class, int.class);
        thrown(argument + "," + state, "send", int.class, int.class);
        thrown(argument, "lose", int.class, int.class);
        thrown(state, "play");
        thrown("", "played");
        thrown(argument, "terminal", int.class, int.class);
        thrown(argument, "centre", int.class, int.class);
        thrown(argument, "plan", int.class, int.class, int.class);
        thrown(argument, "places", int.class, int.class);
        thrown(argument, "heard", int.class, int.class);
        thrown("", "missed");
    }

    private static void thrown(String want, String name, Class<?>... parameters)
            throws ReflectiveOperationException {
        Method method = SharedUplink.class.getDeclaredMethod(name, parameters);
        CHECK.equal(name + " is public", 1, Modifier.isPublic(method.getModifiers()) ? 1 : 0);
        CHECK.equal(name + " is of an object", 0, Modifier.isStatic(method.getModifiers()) ? 1 : 0);
        CHECK.equal("what " + name + " throws", want, types(method.getExceptionTypes()));
    }

    private static String types(Class<?>[] types) {
        StringBuilder text = new StringBuilder();
        for (Class<?> type : types) {
            text.append(text.length() == 0 ? "" : ",").append(type.getSimpleName());
        }
        return text.toString();
    }
}
