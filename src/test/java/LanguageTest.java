import java.io.IOException;
import java.lang.management.ManagementFactory;
import java.lang.reflect.Constructor;
import java.lang.reflect.Field;
import java.lang.reflect.Method;
import java.lang.reflect.Modifier;
import java.nio.file.Path;
import java.util.ArrayList;
import java.util.Arrays;
import java.util.List;
import java.util.Set;
import java.util.TreeSet;

/** What of LANGUAGE.md a program can look at: the face, the rules on the source, the room that calls take. */
public final class LanguageTest {
    private static final String[] FACE = {
        "int write(int)", "int wipe()", "int fault()", "int lay()", "int set(int,int,int)", "int law(int,int)", "int give()", "int undo()",
        "int cell(int,int)", "int weight(int,int)", "int wide(int,int)", "int tick(int)", "int page()", "int handset(int)", "int where()",
        "int round(int)", "long chance(int,int)", "long mean(int,int)", "int best(int)", "long least(int)", "int walk(int,int,int)",
        "int count(int)"};
    private static int wrong;

    public static void main(String[] args) throws IOException {
        face();
        for (String fault : Source.faultsOf(Path.of("src/main/java/RingPages.java"))) must(false, fault);
        room();
        System.out.println(wrong == 0 ? "the language is kept to" : wrong + " faults of language");
        if (wrong != 0) System.exit(1);
    }

    private static void must(boolean so, String what) {
        if (!so) {
            wrong++;
            System.out.println("not so: " + what);
        }
    }

    private static String told(Method m) {
        List<String> types = new ArrayList<>();
        for (Class<?> t : m.getParameterTypes()) types.add(t.getName());
        return m.getReturnType().getName() + " " + m.getName() + "(" + String.join(",", types) + ")";
    }

    private static void face() {
        Set<String> open = new TreeSet<>(), names = new TreeSet<>(), hidden = new TreeSet<>();
        for (Method m : RingPages.class.getDeclaredMethods()) {
            if (Modifier.isPrivate(m.getModifiers())) {
                hidden.add(m.getName());
                continue;
            }
            must(Modifier.isPublic(m.getModifiers()) && !Modifier.isStatic(m.getModifiers()), m + " is public");
            open.add(told(m));
            names.add(m.getName());
        }
        must(open.equals(new TreeSet<>(Arrays.asList(FACE))), "the face is the document's: " + open);
        hidden.retainAll(names);
        must(hidden.isEmpty(), "no private method bears the name of a public one: " + hidden);
        must(Modifier.isFinal(RingPages.class.getModifiers()), "the class is final");
        Constructor<?>[] makers = RingPages.class.getDeclaredConstructors();
        must(makers.length == 1 && makers[0].getParameterCount() == 0 && Modifier.isPublic(makers[0].getModifiers()), "one constructor");
        Set<String> constants = new TreeSet<>();
        for (Field f : RingPages.class.getDeclaredFields()) {
            if (!Modifier.isPrivate(f.getModifiers())) constants.add(f.getName());
            if (Modifier.isStatic(f.getModifiers())) must(Modifier.isFinal(f.getModifiers()), f + " is final");
        }
        must(constants.equals(new TreeSet<>(List.of("BAD", "NO", "FULL", "NONE"))), "the constants are the document's: " + constants);
    }

    /** After warming up, 512 of the dearest calls make next to nothing. */
    private static void room() {
        com.sun.management.ThreadMXBean bean = (com.sun.management.ThreadMXBean) ManagementFactory.getThreadMXBean();
        long id = Thread.currentThread().getId();
        callAll(new RingPages());
        bean.getThreadAllocatedBytes(id);
        long ahead = bean.getThreadAllocatedBytes(id);
        RingPages x = new RingPages();
        long made = bean.getThreadAllocatedBytes(id);
        callAll(x);
        long behind = bean.getThreadAllocatedBytes(id);
        must(made - ahead < 20_000, "an object is small: " + (made - ahead));
        must(behind - made < 2_000, "calls make nothing: " + (behind - made));
    }

    private static void callAll(RingPages x) {
        for (int i = 0; i < 23; i++) {
            x.write("n2;j0,1,1,1;s0,1;a1,1;l1,1;".charAt(i));
            x.fault();
            x.lay();
            x.set(0, i % 2, i % 3);
            x.law(1, 1 + i % 9);
            x.give();
            x.cell(0, 4);
            x.weight(0, 1);
            x.wide(0, 1);
            x.tick(0);
            x.tick(1);
            x.page();
            x.handset(6);
            x.where();
            x.round(0);
            x.chance(0, 0);
            x.mean(3, 0);
            x.best(1);
            x.least(0);
            x.walk(i, 60, 0);
            x.count(9);
            x.undo();
        }
        x.wipe();
    }
}
