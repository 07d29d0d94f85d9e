import java.lang.reflect.Constructor;
import java.lang.reflect.Field;
import java.lang.reflect.Method;
import java.lang.reflect.Modifier;
import java.util.Arrays;
import java.util.Map;
import java.util.Set;
import java.util.TreeMap;
import java.util.TreeSet;

/** The public face: the constants' numbers, the signatures, and no other member to be seen. */
public final class FaceTest {
    private static final String[] METHODS = {
        "int put(int, int, int, int)", "int drop(int)", "int launch(int)", "int read(int, int)",
        "int run(int, int)", "int weave(int, int)", "int value(int)", "int holder(int)", "int state(int)",
        "int aim(int)", "int target(int)", "int place(int)", "boolean late(int)", "int outcome(int)",
        "int got(int)", "int term(int, int, int)"
    };

    public static void main(String[] args) throws IllegalAccessException {
        constants();
        methods();
        theClass();
        Check.end();
    }

    private static Map<String, Integer> dueConstants() {
        String[] upTo17 = {"BAD", "OK", "BUSY", "FULL", "EMPTY", "IDLE", "RUNNING", "DONE", "READING", "UNDECIDED",
            "SUCCEEDED", "FAILED", "NOTHING", "VALUE", "NONE", "CLAIM", "PASS", "REJECT"};
        String[] parts = {"DRAFT_HAS", "DRAFT_EXPECTED", "DRAFT_DESIRED", "LIVE_HAS", "LIVE_EXPECTED", "LIVE_DESIRED"};
        Map<String, Integer> due = new TreeMap<>();
        for (int i = 0; i < upTo17.length; i++) {
            due.put(upTo17[i], i);
        }
        for (int i = 0; i < parts.length; i++) {
            due.put(parts[i], i);
        }
        return due;
    }

    private static void constants() throws IllegalAccessException {
        Map<String, Integer> seen = new TreeMap<>();
        for (Field f : MultiwordSwap.class.getDeclaredFields()) {
            if (Modifier.isPrivate(f.getModifiers())) {
                continue;
            }
            int wanted = Modifier.PUBLIC | Modifier.STATIC | Modifier.FINAL;
            Check.due(f.getName() + " is public static final", f.getModifiers(), wanted);
            Check.due(f.getName() + " is an int", f.getType() == int.class, true);
            seen.put(f.getName(), f.getInt(null));
        }
        Check.due("the constants " + seen, seen.equals(dueConstants()), true);
    }

    private static void methods() {
        Set<String> seen = new TreeSet<>();
        Set<String> publicNames = new TreeSet<>();
        for (Method m : MultiwordSwap.class.getDeclaredMethods()) {
            if (!Modifier.isPrivate(m.getModifiers())) {
                Check.due(m.getName() + " is public and no more", m.getModifiers(), Modifier.PUBLIC);
                seen.add(signature(m));
                publicNames.add(m.getName());
            }
        }
        Check.due("the methods " + seen, seen.equals(new TreeSet<>(Arrays.asList(METHODS))), true);
        for (Method m : MultiwordSwap.class.getDeclaredMethods()) {
            boolean hides = Modifier.isPrivate(m.getModifiers()) && publicNames.contains(m.getName());
            Check.due("private " + m.getName() + " bears a public name", hides, false);
        }
    }

    private static String signature(Method m) {
        StringBuilder text = new StringBuilder(m.getReturnType() + " " + m.getName() + "(");
        for (Class<?> type : m.getParameterTypes()) {
            text.append(text.charAt(text.length() - 1) == '(' ? "" : ", ").append(type);
        }
        return text.append(")").toString();
    }

    private static void theClass() {
        Check.due("public and final", MultiwordSwap.class.getModifiers(), Modifier.PUBLIC | Modifier.FINAL);
        Constructor<?>[] all = MultiwordSwap.class.getDeclaredConstructors();
        Check.due("constructors", all.length, 1);
        Check.due("the constructor is public", all[0].getModifiers(), Modifier.PUBLIC);
        Class<?>[] three = {int.class, int.class, int.class};
        Check.due("it takes three ints", Arrays.equals(all[0].getParameterTypes(), three), true);
        Check.due("nested classes", MultiwordSwap.class.getDeclaredClasses().length, 0);
    }
}
