import java.lang.reflect.Method;
import java.lang.reflect.Modifier;
import java.nio.file.Files;
import java.nio.file.Path;
import java.util.ArrayList;
import java.util.Arrays;
import java.util.Comparator;
import java.util.List;
import java.util.Set;
import java.util.TreeSet;
import java.util.regex.Matcher;
import java.util.regex.Pattern;

/** What the boundary tests share: roads told as texts, answers that are due, and a run of all tests of a class. */
abstract class Asking {

    /** A road that is as long as one feed: twenty bytes. */
    static final String R = "road period 1 mud 1;";
    static final String C = "coach at 0 patience 0;";
    /** 1 is as late as 0 in the same round, 0 is as late as 1 in the round ahead, less 3. */
    static final String PAIR = "road period 10 mud 0;coach at 0 patience 5;coach at 4 patience 2;"
        + "wait 0 1 takes 4 lag 0;wait 1 0 takes 3 lag 1;";
    /** One coach, later by 3 more in each round. */
    static final String GROWS = "road period 10 mud 0;" + C + "wait 0 0 takes 13 lag 1;";
    /** Six coaches and ten waits: as many as there may be; nobody is late as planned. */
    static final String FULL = "road period 50 mud 0;" + C.repeat(6) + "wait 0 0 takes 10 lag 1;".repeat(10);

    static final int LEAST = Integer.MIN_VALUE;
    static final int MOST = Integer.MAX_VALUE;

    private static final Pattern TEST = Pattern.compile("((?: {4}//[^\n]*\n)+) {4}static void (\\w+)\\(\\) \\{");
    private static final Pattern REMARK = Pattern.compile(
        "^(?:Promise (\\d+)|(Terms|What it is) \\(promises? \\d[\\d, to]*\\)): ((?:\"[^\"]*\"(?:, )?)+)$");

    private static String name = "";
    private static int asked;
    private static int wrong;

    interface Call {
        long on(CoachWaits x);
    }

    static void due(String what, long got, long want) {
        asked++;
        if (got != want) {
            fail(what + " answered " + got + ", due is " + want);
        }
    }

    static void fail(String what) {
        wrong++;
        System.out.println(name + ": " + what);
    }

    static int tell(CoachWaits x, String text) {
        feed(x, text);
        return x.road(text.length());
    }

    static void feed(CoachWaits x, String text) {
        for (int i = 0; i < text.length(); i += 20) {
            int[] v = new int[5];
            for (int j = 0; j < 20; j++) {
                v[j / 4] = v[j / 4] << 8 | (i + j < text.length() ? text.charAt(i + j) & 255 : 32);
            }
            x.feed(v[0], v[1], v[2], v[3], v[4]);
        }
    }

    static CoachWaits on(String text) {
        CoachWaits x = new CoachWaits();
        if (tell(x, text) < 1) {
            fail("fault " + x.fault(0) + " at " + x.fault(1) + " of " + text);
        }
        return x;
    }

    static void sound(String text, int lines) {
        due("road of '" + text + "'", tell(new CoachWaits(), text), lines);
    }

    static void faulty(String text, int kind, int place) {
        CoachWaits x = new CoachWaits();
        due("road of '" + text + "'", tell(x, text), -30 - kind);
        due("fault(0) of '" + text + "'", x.fault(0), kind);
        due("fault(1) of '" + text + "'", x.fault(1), place);
    }

    static void put(CoachWaits x, int tray, int sort, long... all) {
        x.numbers(tray, sort, all.length);
        for (int i = 0; i < all.length; i++) {
            x.write(tray, i, all[i]);
        }
    }

    /** All that can be read without changing anything. */
    static String stand(CoachWaits x) {
        StringBuilder s = new StringBuilder();
        for (int i = 0; i < 10; i++) {
            s.append(" count ").append(x.count(i));
        }
        for (int c = 0; c < x.count(0); c++) {
            for (int what = 0; what < 5; what++) {
                s.append(" coach ").append(x.coach(c, what));
            }
        }
        for (int w = 0; w < x.count(1); w++) {
            for (int what = 0; what < 4; what++) {
                s.append(" wait ").append(x.waiting(w, what));
            }
        }
        for (int tray = 0; tray < 4; tray++) {
            for (int what = 0; what < 4; what++) {
                s.append(" judge ").append(x.judge(tray, what));
            }
        }
        return s.append(" fault ").append(x.fault(0)).append(' ').append(x.fault(1)).toString();
    }

    static void same(String what, String got, String want) {
        asked++;
        if (!got.equals(want)) {
            fail(what + ":\n  " + got + "\n  due is\n  " + want);
        }
    }

    /** Runs all tests of a class; each must have a remark, whose sentences must stand where the remark says. */
    static void runAll(Class<?> tests) throws Exception {
        Method[] all = tests.getDeclaredMethods();
        Arrays.sort(all, Comparator.comparing(Method::getName));
        List<String> ran = new ArrayList<>();
        for (Method m : all) {
            if (Modifier.isStatic(m.getModifiers()) && m.getParameterCount() == 0 && m.getReturnType() == void.class) {
                name = tests.getName() + "." + m.getName();
                m.invoke(null);
                ran.add(m.getName());
            }
        }
        name = tests.getName();
        checkRemarks(Files.readString(Path.of("src/test/java/" + tests.getName() + ".java")), ran);
        System.out.println(ran.size() + " tests, " + asked + " asked, " + wrong + " wrong");
        if (wrong != 0) {
            System.exit(1);
        }
    }

    private static void checkRemarks(String source, List<String> ran) throws Exception {
        String doc = Files.readString(Path.of("../shared/DOC.md"));
        List<String> remarked = new ArrayList<>();
        Set<Integer> promises = new TreeSet<>();
        Matcher m = TEST.matcher(source);
        while (m.find()) {
            String remark = m.group(1).replaceAll("(?m)^ *// ?", "").replaceAll("\\s+", " ").trim();
            Matcher told = REMARK.matcher(remark);
            remarked.add(m.group(2));
            if (!told.find()) {
                fail(m.group(2) + " has a remark that names no sentence: " + remark);
                continue;
            }
            String heading = told.group(2);
            if (heading == null) {
                promises.add(Integer.parseInt(told.group(1)));
                heading = "Promise " + told.group(1);
            }
            String part = partOf(doc, heading);
            for (String quote : told.group(3).replaceAll("^\"|\"$", "").split("\", \"")) {
                if (!part.contains(quote)) {
                    fail(m.group(2) + ": '" + quote + "' doesn't stand under " + heading);
                }
            }
        }
        for (String test : ran) {
            if (!remarked.contains(test)) {
                fail(test + " has no remark");
            }
        }
        for (int p = 1; p <= 42 && !promises.isEmpty(); p++) {
            if (!promises.contains(p)) {
                fail("no test of promise " + p);
            }
        }
    }

    private static String partOf(String doc, String heading) {
        int from = doc.indexOf("\n## " + heading + (heading.startsWith("Promise") ? ":" : "\n"));
        int to = from < 0 ? -1 : doc.indexOf("\n## ", from + 1);
        return from < 0 ? "" : doc.substring(from, to < 0 ? doc.length() : to).replaceAll("\\s+", " ");
    }
}
