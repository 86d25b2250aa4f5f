import java.io.IOException;
import java.lang.reflect.Array;
import java.lang.reflect.Constructor;
import java.lang.reflect.Executable;
import java.lang.reflect.Field;
import java.lang.reflect.Method;
import java.lang.reflect.Modifier;
import java.nio.file.Files;
import java.nio.file.Path;
import java.util.ArrayList;
import java.util.Arrays;
import java.util.HashSet;
import java.util.List;
import java.util.Set;
import java.util.regex.Matcher;
import java.util.regex.Pattern;

/** The rules of LANGUAGE.md that can be seen from outside, and that calls make nothing anew. */
public final class RulesTest {
    private static final String[] FACE = {"int feed(int,int,int,int,int)", "int text(int)", "int fault(int)",
        "int named(int)", "int latch(int,int)", "int row(int)", "int could(int,int)", "long law(int,int)",
        "int push(int)", "int force(int)", "int seal(int)", "int go(int)", "int ahead(int,int)", "int when(int)",
        "int fewest(int)", "int first(int)", "int ways(int)", "int reach()", "int farthest(int)", "int wide()",
        "int parts()", "int past(int,int)", "int must(int)", "int free(int)", "int ease(int)", "int game(int)",
        "long drunk(int,int,int)", "long holds(int,int)", "int note(int,int,boolean)", "int strike(int)",
        "boolean known(int)", "int fits(int)", "int ask(int,int)", "int chance(int,int,int)", "int tried(int,int,int)",
        "int undo()", "int keep()", "int back()", "int count(int)"};

    public static void main(String[] args) throws IOException, IllegalAccessException {
        face();
        classes();
        words();
        room();
        roomOfOne();
        Bench.end("RulesTest");
    }

    private static String told(Method m) {
        StringBuilder s = new StringBuilder(m.getReturnType() + " " + m.getName() + "(");
        for (Class<?> type : m.getParameterTypes()) {
            s.append(s.charAt(s.length() - 1) == '(' ? "" : ",").append(type);
        }
        return s.append(')').toString();
    }

    private static void face() {
        Set<String> due = new HashSet<>(Arrays.asList(FACE));
        Set<String> names = new HashSet<>();
        for (Method m : LeanLatches.class.getDeclaredMethods()) {
            if (!Modifier.isPrivate(m.getModifiers())) {
                Bench.due("public: " + m, Modifier.isPublic(m.getModifiers()) ? 1 : 0, 1);
                Bench.due("of the face: " + told(m), due.remove(told(m)) ? 1 : 0, 1);
                names.add(m.getName());
            }
        }
        Bench.due("methods that are missing: " + due, due.size(), 0);
        List<Class<?>> all = new ArrayList<>(Arrays.asList(LeanLatches.class.getDeclaredClasses()));
        all.add(LeanLatches.class);
        for (Class<?> c : all) {
            for (Method m : c.getDeclaredMethods()) {
                boolean borne = !Modifier.isPublic(m.getModifiers()) && names.contains(m.getName());
                Bench.due("bears a name of the face: " + m, borne ? 1 : 0, 0);
            }
        }
        for (Field f : LeanLatches.class.getDeclaredFields()) {
            Bench.due("seen: " + f, Modifier.isPrivate(f.getModifiers()) || f.getName().equals("NONE") ? 1 : 0, 1);
        }
        Constructor<?>[] made = LeanLatches.class.getDeclaredConstructors();
        Bench.due("constructors", made.length, 1);
        Bench.due("of none", made[0].getParameterCount(), 0);
        Bench.due("public and final", LeanLatches.class.getModifiers(), Modifier.PUBLIC | Modifier.FINAL);
        Bench.due("NONE", LeanLatches.NONE, -1);
    }

    private static void classes() {
        List<Class<?>> all = new ArrayList<>(Arrays.asList(LeanLatches.class.getDeclaredClasses()));
        Bench.due("at most eleven inside", all.size() <= 11 ? 1 : 0, 1);
        for (Class<?> c : all) {
            Bench.due("static: " + c, Modifier.isStatic(c.getModifiers()) ? 1 : 0, 1);
        }
        all.add(LeanLatches.class);
        for (Class<?> c : all) {
            int fields = 0;
            for (Field f : c.getDeclaredFields()) {
                boolean isStatic = Modifier.isStatic(f.getModifiers());
                fields += isStatic ? 0 : 1;
                Bench.due("final: " + f, !isStatic || Modifier.isFinal(f.getModifiers()) ? 1 : 0, 1);
            }
            Bench.due("fields of " + c + ": " + fields, fields <= 20 ? 1 : 0, 1);
            List<Executable> calls = new ArrayList<>(Arrays.asList(c.getDeclaredMethods()));
            calls.addAll(Arrays.asList(c.getDeclaredConstructors()));
            for (Executable call : calls) {
                Bench.due("parameters of " + call, call.getParameterCount() <= 7 ? 1 : 0, 1);
            }
        }
    }

    private static void words() throws IOException {
        String source = Files.readString(Path.of("src/main/java/LeanLatches.java"));
        source = source.replaceAll("(?s)/\\*.*?\\*/", "").replaceAll("//.*", "").replaceAll("\"[^\"]*\"", "\"\"");
        for (String word : new String[] {"->", "::", "catch", "finally", "synchronized", "assert", "Exact",
            "System.out", "nanoTime", "currentTimeMillis", "Random", "Object", "protected", "package", "hashCode",
            "toString", "getMessage", "\"\" +", "+ \"\""}) {
            Bench.due("the source has " + word, source.contains(word) ? 1 : 0, 0);
        }
        Matcher m = Pattern.compile("import ([\\w.]+);").matcher(source);
        while (m.find()) {
            boolean allowed = m.group(1).equals("java.util.Arrays") || m.group(1).equals("java.util.NoSuchElementException");
            Bench.due("import of " + m.group(1), allowed ? 1 : 0, 1);
        }
        int long60 = 0;
        int lines = 0;
        for (String line : source.split("\n")) {
            lines = line.matches(" {4,8}(private|public) [^;=]*\\{") && !line.contains(" class ") ? 0 : lines + 1;
            long60 += line.matches(" {4,8}\\}") && lines > 60 && lines < 200 ? 1 : 0;
        }
        Bench.due("methods of more than sixty lines", long60, 0);
    }

    /** All calls of a run share one room: none but those that throw may make anything. */
    private static void room() {
        com.sun.management.ThreadMXBean bean =
            (com.sun.management.ThreadMXBean) java.lang.management.ManagementFactory.getThreadMXBean();
        long thread = Thread.currentThread().getId();
        long made = 0;
        for (int time = 0; time < 2; time++) {
            LeanLatches x = Bench.door("latch a 0;latch b 1;latch c 0;latch d 1;lean a many 1;lean b as a and down c;"
                + "push a 1;push b 2;push a 4;rust 20;law eat 20+worn*3;law seal worn>7;law effort ups;");
            LeanLatches y = new LeanLatches();
            long before = bean.getThreadAllocatedBytes(thread);
            for (int i = 0; i < 200; i++) {
                callAll(x, i % 16);
                y.feed(0x6f696c20, 0x313b0a0a, 0x6c617720, 0x65617420, 0x312b323b);
                y.text(i % 21);
            }
            made = bean.getThreadAllocatedBytes(thread) - before;
        }
        Bench.due("bytes made by 200 times all calls: " + made, made < 10000 ? 1 : 0, 1);
    }

    /** Some 600,000 objects and 7.3 million fields are there for all: one door takes little of it. */
    private static void roomOfOne() throws IllegalAccessException {
        List<Object> found = new ArrayList<>(List.of(new LeanLatches()));
        int parts = 0;
        for (int i = 0; i < found.size(); i++) {
            Object at = found.get(i);
            if (at.getClass().isArray()) {
                parts += Array.getLength(at);
                continue;
            }
            for (Field f : at.getClass().getDeclaredFields()) {
                if (!Modifier.isStatic(f.getModifiers())) {
                    parts++;
                    f.setAccessible(true);
                    Object part = f.getType().isPrimitive() ? null : f.get(at);
                    if (part != null) {
                        found.add(part);
                    }
                }
            }
        }
        Bench.due("objects of a door: " + found.size(), found.size() <= 80 ? 1 : 0, 1);
        Bench.due("fields and elements of a door: " + parts, parts <= 4000 ? 1 : 0, 1);
    }

    private static int callAll(LeanLatches x, int i) {
        int sum = x.fault(0) + x.named(i) + x.latch(i % 4, i % 4) + x.row(i) + x.could(i, i % 4) + (int) x.law(i % 3, i % 4);
        sum += x.push(i % 4) + x.force(i % 4) + x.seal(i % 4) + x.go(i % 3) + x.ahead(i, i % 5) + x.when(i % 4);
        sum += x.fewest(i) + x.first(i) + x.ways(i) + x.reach() + x.farthest(i % 2) + x.wide() + x.parts();
        sum += x.past(i, 0) + x.must(i) + x.free(i % 4) + x.ease(i) + x.game(i % 2) + (int) x.drunk(i, 3, 0);
        sum += (int) x.holds(3, 1) + x.note(i, i % 4, true) + x.strike(i) + (x.known(-1) ? 1 : 0) + x.fits(i % 4);
        sum += x.ask(i % 4, 0) + x.chance(i, 9, i % 4) + x.tried(4, 0, 9) + x.undo() + x.keep() + x.back() + x.count(i);
        return sum;
    }
}
