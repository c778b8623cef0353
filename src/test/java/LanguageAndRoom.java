import java.io.IOException;
import java.lang.management.ManagementFactory;
import java.lang.reflect.Array;
import java.lang.reflect.Field;
import java.lang.reflect.Method;
import java.lang.reflect.Modifier;
import java.nio.file.Files;
import java.nio.file.Path;
import java.util.ArrayDeque;
import java.util.Collections;
import java.util.Deque;
import java.util.IdentityHashMap;
import java.util.Set;
import java.util.TreeSet;
import java.util.regex.Matcher;
import java.util.regex.Pattern;

/** Rules of LANGUAGE.md that can be seen from outside: the face, what the source may not hold, and what a run makes. */
public final class LanguageAndRoom {
    private static final Check c = new Check();
    private static final String FACE = "apart(int,int) blind(int) both(int,int,int) deed(int,int) drop(int) end(int) "
        + "example(boolean) fault() feed(int,int,int,int,int) guess() is(int) keep(int) learn(int) least() letters(int) "
        + "longest(int) merge(int,int) node(int,int) octet(int) score(int,int,int) small(int) state(int,int,int) states(int) "
        + "step(int) taken(int,int) takes(int) target() teach(int) text(int) tight(int) tries() undo() useful(int) "
        + "which(int,int) without(int,int) words(int,int) writeNode(int) wrong(int) ";

    public static void main(String[] args) throws IOException, IllegalAccessException {
        face();
        source(Files.readString(Path.of("src/main/java/WordFolder.java")));
        room();
        c.end();
    }

    private static void face() {
        c.about("rule 1");
        Set<String> open = new TreeSet<>();
        Set<String> names = new TreeSet<>();
        for (Method m : WordFolder.class.getDeclaredMethods()) {
            if (Modifier.isPublic(m.getModifiers())) {
                StringBuilder s = new StringBuilder(m.getName()).append('(');
                for (Class<?> p : m.getParameterTypes()) {
                    s.append(s.charAt(s.length() - 1) == '(' ? "" : ",").append(p.getName());
                }
                open.add(s.append(") ").toString());
                names.add(m.getName());
                c.due(m.getName() + " answers", m.getReturnType().getName(), m.getName().equals("letters") ? "boolean" : "int");
            } else {
                c.due(m.getName() + " is private", Modifier.isPrivate(m.getModifiers()), true);
            }
        }
        c.due("the face", String.join("", open), FACE);
        for (Method m : WordFolder.class.getDeclaredMethods()) {
            c.due(m.getName() + " bears a name of its own", !Modifier.isPublic(m.getModifiers()) && names.contains(m.getName()), false);
        }
        for (Field f : WordFolder.class.getDeclaredFields()) {
            c.due(f.getName() + " is private", Modifier.isPrivate(f.getModifiers()), !f.getName().equals("NONE"));
        }
        c.due("classes", WordFolder.class.getDeclaredClasses().length <= 12, true);
        for (Class<?> k : WordFolder.class.getDeclaredClasses()) {
            c.due(k.getName() + " is private and static", (k.getModifiers() & (Modifier.PRIVATE | Modifier.STATIC)),
                Modifier.PRIVATE | Modifier.STATIC);
            int fields = 0;
            for (Field f : k.getDeclaredFields()) {
                boolean isStatic = Modifier.isStatic(f.getModifiers());
                fields += isStatic ? 0 : 1;
                c.due(f.getName() + " is final", !isStatic || Modifier.isFinal(f.getModifiers()), true);
            }
            c.due(k.getName() + " has few fields", fields <= 20, true);
            for (Method m : k.getDeclaredMethods()) {
                c.due(m.getName() + " bears a name of its own", names.contains(m.getName()), false);
                c.due(m.getName() + " takes few parameters", m.getParameterCount() <= 7, true);
            }
        }
    }

    private static void source(String all) {
        c.about("rules 2 to 6, 11");
        String bare = all.replaceAll("(?s)/\\*.*?\\*/", "").replaceAll("//[^\n]*", "").replaceAll("'(\\\\.|[^'])'", "0");
        String[] none = {"\\bthrow\\b", "\\bthrows\\b", "\\btry\\b", "\\bcatch\\b", "\\bsynchronized\\b", "\\bassert\\b", "->", "::",
            "Exact\\b", "\\binstanceof\\b", "^package\\b", "\\bimport\\b", "\\bfloat\\b", "\\bdouble\\b", "\\bObject\\b", "\\bSystem\\.(?!arraycopy)",
            "\\bprotected\\b", "\\.hashCode\\b", "\\.equals\\b", "\\.toString\\b", "static\\s*\\{"};
        for (String p : none) {
            c.due("holds " + p, Pattern.compile(p, Pattern.MULTILINE).matcher(bare).find(), false);
        }
        for (int k = 0; k < all.length(); k++) {
            if (all.charAt(k) > 127) {
                c.due("sign at " + k, all.charAt(k), 127);
            }
        }
        Matcher method = Pattern.compile("(?m)^( +)[^\\s=]+( [^=;\n]*)?\\([^;=\n]*\\) \\{$").matcher(bare);
        while (method.find()) {
            int end = bare.indexOf("\n" + method.group(1) + "}", method.start());
            long lines = bare.substring(method.start(), end).lines().count() + 1;
            c.due("a short method: " + method.group().trim(), lines <= 60, true);
        }
    }

    private static void room() throws IllegalAccessException {
        c.about("rule 12");
        long[] made = count(new WordFolder());
        System.out.println("an object is made of " + made[0] + " objects and arrays, " + made[1] + " fields and elements");
        c.due("few objects", made[0] <= 150, true);
        c.due("few elements", made[1] <= 25000, true);
        com.sun.management.ThreadMXBean meter = (com.sun.management.ThreadMXBean) ManagementFactory.getThreadMXBean();
        long id = Thread.currentThread().getId();
        long least = Long.MAX_VALUE;
        for (int turn = 0; turn < 3; turn++) {
            WordFolder x = new WordFolder();
            long before = meter.getThreadAllocatedBytes(id);
            manyCalls(x);
            least = Math.min(least, meter.getThreadAllocatedBytes(id) - before);
        }
        c.due("calls make no objects", least < 1000, true);
    }

    /** Objects and arrays, and their fields and elements, that are held by one. */
    private static long[] count(Object root) throws IllegalAccessException {
        Set<Object> seen = Collections.newSetFromMap(new IdentityHashMap<>());
        Deque<Object> open = new ArrayDeque<>();
        open.add(root);
        seen.add(root);
        long parts = 0;
        while (!open.isEmpty()) {
            Object o = open.remove();
            if (o.getClass().isArray()) {
                parts += Array.getLength(o);
                continue;
            }
            for (Field f : o.getClass().getDeclaredFields()) {
                if (Modifier.isStatic(f.getModifiers())) {
                    continue;
                }
                parts++;
                f.setAccessible(true);
                Object held = f.getType().isPrimitive() ? null : f.get(o);
                if (held != null && seen.add(held)) {
                    open.add(held);
                }
            }
        }
        return new long[] {seen.size(), parts};
    }

    /** Each call of the face, over a sample and machines of some size. */
    private static void manyCalls(WordFolder x) {
        x.letters(2);
        x.feed(0x2B613162, 0x303B2D61, 0x3062313B, 0, 0);
        x.end(12);
        x.target();
        x.teach(4);
        for (int how = 0; how < 3; how++) {
            x.learn(how);
            x.blind(how);
            x.without(how, 3);
            x.undo();
            x.step(how);
            x.score(how, 0, 1);
            x.feed(0x61626100, 0, 0, 0, 0);
            x.end(3);
            x.guess();
            x.least();
            x.keep(how);
            for (int m = 0; m < 4; m++) {
                x.takes(m);
                x.words(m, 9);
                x.taken(m, 30);
                x.small(m);
                x.apart(m, 2);
                x.wrong(m);
                x.useful(m);
                x.longest(m);
                x.text(m);
                x.both(m, 2, how);
                x.tight(m);
                x.states(m);
                x.state(m, 0, 1);
            }
        }
        x.merge(1, 0);
        x.deed(0, 1);
        x.drop(0);
        x.example(true);
        x.which(0, 3);
        x.is(6);
        x.node(3, 5);
        x.writeNode(2);
        x.octet(0);
        x.tries();
        x.fault();
    }
}
