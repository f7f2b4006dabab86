import java.lang.reflect.Constructor;
import java.lang.reflect.Field;
import java.lang.reflect.Method;
import java.lang.reflect.Modifier;
import java.util.TreeSet;

/** The public face: every constant with its value, the constructor, every method, and no other visible member. */
public final class FaceTest {
    private static final String FACE =
        "BAD=4 BUSY=2 DONE=1 FULL=5 IDLE=0 LEFT=1 LEFT_CELLS=12 MAX_RULES=12 MAX_STEPS=64 MAX_TERM=64 NONE=3 "
        + "NORMAL=6 OK=0 OUT=7 RIGHT=2 RIGHT_CELLS=16 TERM=3 "
        + "beginRule/0 beginTerm/0 cancel/0 cell/2 dropRule/1 mode/0 new/2 nextRedex/0 put/1 ruleAt/1 rules/0 "
        + "run/1 size/0 steps/0 symbolAt/1 used/1";

    public static void main(String[] args) throws IllegalAccessException {
        TreeSet<String> seen = new TreeSet<>();
        for (Field f : RewriteAutomaton.class.getDeclaredFields()) {
            if (!Modifier.isPrivate(f.getModifiers())) {
                seen.add(f.getName() + "=" + f.getInt(null));
                Check.due(f + " being public static final", f.getModifiers(),
                    Modifier.PUBLIC | Modifier.STATIC | Modifier.FINAL);
            }
        }
        for (Method m : RewriteAutomaton.class.getDeclaredMethods()) {
            if (!Modifier.isPrivate(m.getModifiers())) {
                seen.add(m.getName() + "/" + intParameters(m.getParameterTypes()));
                Check.due(m + " being public", m.getModifiers(), Modifier.PUBLIC);
                Check.due(m + " answering an int", m.getReturnType() == int.class ? 1 : 0, 1);
            }
        }
        for (Constructor<?> c : RewriteAutomaton.class.getDeclaredConstructors()) {
            seen.add("new/" + intParameters(c.getParameterTypes()));
            Check.due(c + " being public", c.getModifiers(), Modifier.PUBLIC);
        }
        Check.same("the face", String.join(" ", seen), FACE);
        Check.due("the class being public final", RewriteAutomaton.class.getModifiers(),
            Modifier.PUBLIC | Modifier.FINAL);
        Check.end();
    }

    private static int intParameters(Class<?>[] types) {
        for (Class<?> type : types) {
            Check.due(type + " being int", type == int.class ? 1 : 0, 1);
        }
        return types.length;
    }
}
