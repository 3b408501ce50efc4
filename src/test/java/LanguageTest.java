import java.lang.reflect.Constructor;
import java.lang.reflect.Field;
import java.lang.reflect.Method;
import java.lang.reflect.Modifier;
import java.nio.file.Files;
import java.nio.file.Path;
import java.util.ArrayList;
import java.util.Arrays;
import java.util.Comparator;
import java.util.List;
import java.util.Set;
import java.util.TreeSet;
import java.util.regex.Matcher;
import java.util.regex.Pattern;

/** The face as the document gives it, and what can be seen from outside of the rules of LANGUAGE.md. */
public final class LanguageTest {

    private static final String FACE = "int feed(int,int,int,int,int) int road(int) int fault(int) int coach(int,int) "
        + "int waiting(int,int) int by(int,int) int forWhich(int,int) int round(int) int rounds(int) int hold(int,int) "
        + "int mud(int) int undo(int) int judge(int,int) int perform(int) int week(int,int) int late(int,int) "
        + "int sets(int,int) int calm() int slowest(int) int slow() int rings() int period() int hour(int,int) int room(int) "
        + "int leave() int leaves(int,int) int spread(int,int,int) int leeway(int) int soonest() int way(int) "
        + "int rows(int,int) int muds(int,int) int look(int,int) int chance(int,int,int) long mean(int,int,int,int) "
        + "int numbers(int,int,int) long write(int,int,long) int lists(int,int) int image(int) int restore(int) int count(int)";

    private static final String[] FORBIDDEN = {"throw", "throws", "try", "catch", "finally", "synchronized", "assert",
        "Object", "HashMap", "Exception", "System.out", "Thread", "Random", "volatile", "->", "::"};

    private static int wrong;

    private static void must(boolean holds, String what) {
        if (!holds) {
            wrong++;
            System.out.println("not so: " + what);
        }
    }

    public static void main(String[] args) throws Exception {
        face();
        inside();
        source(Files.readString(Path.of("src/main/java/CoachWaits.java")));
        roomOfCalls();
        anyArguments();
        System.out.println(wrong == 0 ? "the face and the language are kept" : wrong + " rules are not kept");
        if (wrong != 0) {
            System.exit(1);
        }
    }

    private static String shape(Method m) {
        List<String> types = new ArrayList<>();
        for (Class<?> c : m.getParameterTypes()) {
            types.add(c.getSimpleName());
        }
        return m.getReturnType().getSimpleName() + " " + m.getName() + "(" + String.join(",", types) + ")";
    }

    private static void face() throws Exception {
        Class<?> k = CoachWaits.class;
        must(k.getModifiers() == (Modifier.PUBLIC | Modifier.FINAL), "public final class");
        Set<String> due = new TreeSet<>(Arrays.asList(FACE.split(" (?=int [a-zA-Z]+\\(|long [a-zA-Z]+\\()")));
        Set<String> there = new TreeSet<>();
        Set<String> names = new TreeSet<>();
        for (Method m : k.getDeclaredMethods()) {
            if (Modifier.isPublic(m.getModifiers())) {
                there.add(shape(m));
                names.add(m.getName());
                must(!Modifier.isStatic(m.getModifiers()), m.getName() + " is no static method");
            }
        }
        must(there.equals(due), "the methods are those of the document: " + there);
        for (Method m : k.getDeclaredMethods()) {
            int mods = m.getModifiers();
            must(Modifier.isPublic(mods) || Modifier.isPrivate(mods), m.getName() + " is public or private");
            must(Modifier.isPublic(mods) || !names.contains(m.getName()), m.getName() + " is no other one's name");
        }
        Constructor<?>[] made = k.getDeclaredConstructors();
        must(made.length == 1 && Modifier.isPublic(made[0].getModifiers()) && made[0].getParameterCount() == 0, "constructor");
        for (Field f : k.getDeclaredFields()) {
            boolean isNone = f.getName().equals("NONE");
            must(isNone == Modifier.isPublic(f.getModifiers()), f.getName() + " is private, but for NONE");
            must(isNone || Modifier.isPrivate(f.getModifiers()), f.getName() + " is private, but for NONE");
        }
        must(k.getField("NONE").getInt(null) == -1, "NONE");
    }

    private static void inside() {
        Class<?>[] all = CoachWaits.class.getDeclaredClasses();
        must(all.length <= 11, "twelve classes at most");
        List<Class<?>> each = new ArrayList<>(Arrays.asList(all));
        each.add(CoachWaits.class);
        for (Class<?> c : each) {
            must(c == CoachWaits.class || Modifier.isStatic(c.getModifiers()), c + " is static");
            int fields = 0;
            for (Field f : c.getDeclaredFields()) {
                boolean fixed = Modifier.isStatic(f.getModifiers());
                fields += fixed ? 0 : 1;
                must(!fixed || Modifier.isFinal(f.getModifiers()), f + " is final");
            }
            must(fields <= 20, c + " has twenty fields at most");
            for (Method m : c.getDeclaredMethods()) {
                must(m.getParameterCount() <= 7, m + " takes seven parameters at most");
            }
        }
    }

    private static String bare(String source) {
        return source.replaceAll("(?s)/\\*.*?\\*/", "").replaceAll("//[^\n]*", "").replaceAll("\"[^\"\n]*\"", "\"\"");
    }

    private static void source(String source) {
        String code = bare(source);
        for (String word : FORBIDDEN) {
            boolean letters = Character.isLetter(word.charAt(0));
            String pattern = letters ? "\\b" + Pattern.quote(word) + "\\b" : Pattern.quote(word);
            must(!Pattern.compile(pattern).matcher(code).find(), "no " + word);
        }
        Matcher imports = Pattern.compile("(?m)^import (.*);").matcher(code);
        while (imports.find()) {
            must(imports.group(1).equals("java.util.Arrays"), "no import of " + imports.group(1));
        }
        must(!Pattern.compile("(?m)^package ").matcher(code).find(), "no package");
        must(source.chars().allMatch(c -> c == 10 || c >= 32 && c < 127), "plain signs");
        String[] lines = source.split("\n");
        int start = -1;
        for (int i = 0; i < lines.length; i++) {
            must(lines[i].length() <= 120, "line " + (i + 1) + " is short");
            if (lines[i].matches(" {4}(?: {4})?[a-z].*\\) \\{")) {
                start = i;
            } else if (lines[i].matches(" {4}(?: {4})?\\}") && start >= 0) {
                must(i - start <= 60, "the method at line " + (start + 1) + " is short");
                start = -1;
            }
        }
    }

    /** All is made with the object: no call makes an object or an array of its own. */
    private static void roomOfCalls() {
        com.sun.management.ThreadMXBean mx =
            (com.sun.management.ThreadMXBean) java.lang.management.ManagementFactory.getThreadMXBean();
        long me = Thread.currentThread().getId();
        CoachWaits x = new CoachWaits();
        everyCall(x);
        x = new CoachWaits();
        long ahead = mx.getThreadAllocatedBytes(me);
        everyCall(x);
        long made = mx.getThreadAllocatedBytes(me) - ahead;
        must(made < 2000, "calls make nothing new, not " + made + " bytes");
        long before = mx.getThreadAllocatedBytes(me);
        x = new CoachWaits();
        long size = mx.getThreadAllocatedBytes(me) - before;
        must(size < 60000, "an object is small, not " + size + " bytes");
    }

    private static final long[] EDGES = {Integer.MIN_VALUE, -1, 0, 1, 3, 10, 40, 99, 1000, Integer.MAX_VALUE};

    /** Rule 7: no call throws, whatever its arguments are, on no road and on one, whatever was done ahead of it. */
    private static void anyArguments() throws Exception {
        CoachWaits x = new CoachWaits();
        int calls = 0;
        int objects = 0;
        Method[] all = CoachWaits.class.getMethods();
        Arrays.sort(all, Comparator.comparing(Method::toString));
        for (Method m : all) {
            if (m.getDeclaringClass() != CoachWaits.class) {
                continue;
            }
            Class<?>[] types = m.getParameterTypes();
            int many = (int) Math.pow(EDGES.length, Math.min(3, types.length));
            for (int i = 0; i < many; i++) {
                if (calls % 100 == 0) {
                    x = new CoachWaits();
                    objects++;
                    if (objects % 3 > 0) {
                        everyCall(x);
                    }
                }
                Object[] values = new Object[types.length];
                for (int a = 0, rest = i; a < types.length; a++, rest = rest / EDGES.length + a * 3) {
                    long v = EDGES[rest % EDGES.length];
                    values[a] = types[a] == long.class ? (Object) v : (Object) (int) v;
                }
                m.invoke(x, values);
                calls++;
            }
        }
        must(calls > 5000, "all calls were made, not " + calls);
    }

    private static void everyCall(CoachWaits x) {
        // road period 1 mud 1; and so on: a road without faults is told by the other tests
        x.feed(1919902052, 544236914, 1768907808, 824208757, 1679831355);
        x.feed(1668243811, 1746952564, 540024944, 1635019109, 1852007712);
        x.feed(809203553, 1769218096, 540024948, 1634428275, 540090476);
        x.feed(1634148401, 997679465, 1948266528, 807433313, 1801810720);
        x.feed(824208481, 1730163003, 538976288, 538976288, 538976288);
        must(x.road(88) == 4, "a road is told");
        for (int i = -2; i < 8; i++) {
            x.fault(i);
            x.count(i);
            x.coach(0, i);
            x.waiting(0, i);
            x.round(i);
            x.by(i, 0);
            x.forWhich(i, 0);
            x.rounds(i);
            x.hold(0, i);
            x.mud(i);
            x.undo(i);
            x.numbers(i, 2, 8);
            x.write(i, 2, 9);
            x.judge(i, 2);
            x.perform(i);
            x.week(i, 9);
            x.late(0, i);
            x.sets(0, i);
            x.calm();
            x.slowest(i);
            x.slow();
            x.rings();
            x.period();
            x.hour(0, i);
            x.room(i);
            x.leave();
            x.leaves(i, 1);
            x.spread(0, i, 1);
            x.leeway(0);
            x.soonest();
            x.way(i);
            x.rows(0, i);
            x.muds(i, 0);
            x.look(i, 0);
            x.chance(3, i, 0);
            x.mean(0, 3, i, 0);
            x.lists(i, 0);
            x.image(i);
            x.restore(i);
        }
    }
}
