import java.util.ArrayList;
import java.util.Arrays;
import java.util.HashMap;
import java.util.List;
import java.util.Map;
import java.util.Random;

/**
 * Random calls, each answered a second time by a plain reckoning from the document's words: all rounds kept as hours of
 * the clock, all rows, lots and sets of waits gone through one by one, laws told from a tree.
 */
public final class PlainReckoning {

    // ---- the text

    static final class Fault extends RuntimeException {
        final int kind;
        final int place;

        Fault(int kind, int place) {
            super("fault", null, false, false);
            this.kind = kind;
            this.place = place;
        }
    }

    interface Tree {
        long tell(Map<String, Integer> names);
    }

    static final class Token {
        final String text;
        final int place;

        Token(String text, int place) {
            this.text = text;
            this.place = place;
        }
    }

    static final class Line {
        int period = 1;
        int mud;
        int lines;
        final List<int[]> coaches = new ArrayList<>();
        final List<int[]> waits = new ArrayList<>();
        Tree takes;
        Tree keeps;
    }

    static final class Parser {
        final List<Token> tokens = new ArrayList<>();
        final Line line = new Line();
        int at;
        boolean inWaits;
        int open;

        Parser(String text) {
            int i = 0;
            boolean bad = false;
            while (i < text.length() && !bad) {
                char ch = text.charAt(i);
                int j = i + 1;
                if (ch == ' ' || ch == '\n') {
                    i++;
                    continue;
                }
                if (ch >= 'a' && ch <= 'z') {
                    while (j < text.length() && text.charAt(j) >= 'a' && text.charAt(j) <= 'z') j++;
                } else if (ch >= '0' && ch <= '9') {
                    while (j < text.length() && text.charAt(j) >= '0' && text.charAt(j) <= '9') j++;
                    bad = j - i > 3;
                } else {
                    bad = "; : + - * ( ) [ ] = < >".indexOf(ch) < 0;
                }
                tokens.add(new Token(bad ? "?" : text.substring(i, j), i));
                i = j;
            }
            tokens.add(new Token("", text.length()));
        }

        Token peek() {
            return tokens.get(at);
        }

        boolean is(String... some) {
            return Arrays.asList(some).contains(peek().text);
        }

        Fault fault(int kind) {
            return new Fault(is("?") ? 1 : kind, peek().place);
        }

        void eat(String text) {
            if (!is(text)) throw fault(2);
            at++;
        }

        boolean isNumber() {
            return !peek().text.isEmpty() && Character.isDigit(peek().text.charAt(0));
        }

        int number(int least, int most) {
            if (!isNumber()) throw fault(2);
            int n = Integer.parseInt(peek().text);
            if (n < least || n > most) throw fault(3);
            at++;
            return n;
        }

        Line all() {
            eat("road");
            eat("period");
            line.period = number(1, 99);
            eat("mud");
            line.mud = number(0, 9);
            eat(";");
            line.lines = 1;
            while (!is("")) {
                one();
                eat(";");
                line.lines++;
            }
            return line;
        }

        void one() {
            if (is("coach")) {
                if (line.coaches.size() == 6) throw fault(4);
                at++;
                eat("at");
                int hour = number(0, 99);
                eat("patience");
                line.coaches.add(new int[] {hour, number(0, 99)});
            } else if (is("wait")) {
                if (line.waits.size() == 10) throw fault(4);
                at++;
                int from = number(0, line.coaches.size() - 1);
                int to = number(0, line.coaches.size() - 1);
                eat("takes");
                int takes = number(0, 99);
                eat("lag");
                if (is("0", "00", "000") && from >= to) throw fault(3);
                line.waits.add(new int[] {from, to, takes, number(0, 2)});
            } else if (is("takes")) {
                inWaits = false;
                at++;
                eat(":");
                line.takes = sum();
            } else if (is("waits")) {
                inWaits = true;
                at++;
                eat(":");
                line.keeps = truth();
            } else {
                throw fault(2);
            }
        }

        static long bound(long n) {
            return n < -1000000 ? -1000000 : n > 1000000 ? 1000000 : n;
        }

        Tree sum() {
            Tree left = term();
            while (is("+", "-")) {
                boolean plus = is("+");
                at++;
                Tree a = left;
                Tree b = term();
                left = plus ? m -> bound(a.tell(m) + b.tell(m)) : m -> bound(a.tell(m) - b.tell(m));
            }
            return left;
        }

        Tree term() {
            Tree left = atom();
            while (is("*")) {
                at++;
                Tree a = left;
                Tree b = atom();
                left = m -> bound(a.tell(m) * b.tell(m));
            }
            return left;
        }

        void begin() {
            if (open == 6) throw fault(4);
            open++;
            at++;
        }

        Tree atom() {
            if (isNumber()) {
                int n = number(0, 999);
                return m -> n;
            }
            if (is("(")) {
                begin();
                Tree t = sum();
                eat(")");
                open--;
                return t;
            }
            if (is("if")) {
                begin();
                Tree c = truth();
                eat("then");
                Tree a = sum();
                eat("else");
                Tree b = sum();
                eat("end");
                open--;
                return m -> c.tell(m) != 0 ? a.tell(m) : b.tell(m);
            }
            if (is("from", "to", "mud") || (inWaits ? is("late", "patience") : is("time"))) {
                String name = peek().text;
                at++;
                return m -> m.get(name);
            }
            throw fault(2);
        }

        Tree truth() {
            Tree left = both();
            while (is("or")) {
                at++;
                Tree a = left;
                Tree b = both();
                left = m -> a.tell(m) != 0 || b.tell(m) != 0 ? 1 : 0;
            }
            return left;
        }

        Tree both() {
            Tree left = unit();
            while (is("and")) {
                at++;
                Tree a = left;
                Tree b = unit();
                left = m -> a.tell(m) != 0 && b.tell(m) != 0 ? 1 : 0;
            }
            return left;
        }

        Tree unit() {
            if (is("not")) {
                begin();
                Tree a = unit();
                open--;
                return m -> a.tell(m) == 0 ? 1 : 0;
            }
            if (is("[")) {
                begin();
                Tree a = truth();
                eat("]");
                open--;
                return a;
            }
            Tree a = sum();
            if (!is("=", "<", ">")) throw fault(2);
            char op = peek().text.charAt(0);
            at++;
            Tree b = sum();
            return m -> {
                int s = Long.compare(a.tell(m), b.tell(m));
                return (op == '=' ? s == 0 : op == '<' ? s < 0 : s > 0) ? 1 : 0;
            };
        }
    }

    // ---- rounds, as hours of the clock

    static final class World {
        Line road = new Line();
        int mud;
        int[] held = new int[0];
        /** When each coach set out, for each round from 1 on. */
        List<int[]> sets = new ArrayList<>();

        World copy() {
            World w = new World();
            w.road = road;
            w.mud = mud;
            w.held = held.clone();
            w.sets = new ArrayList<>(sets);
            return w;
        }

        int n() {
            return road.coaches.size();
        }

        int planned(int c, int k) {
            return k * road.period + road.coaches.get(c)[0];
        }

        int setOut(int c, int k) {
            return k < 1 ? planned(c, k) : sets.get(k - 1)[c];
        }

        int late(int c, int k) {
            return setOut(c, k) - planned(c, k);
        }

        int late(int c) {
            return late(c, sets.size());
        }

        int lateAll() {
            int s = 0;
            for (int c = 0; c < n(); c++) s += late(c);
            return s;
        }

        int who() {
            int s = 0;
            for (int c = 0; c < n(); c++) if (late(c) > 0) s |= 1 << c;
            return s;
        }

        Map<String, Integer> names(int[] w) {
            Map<String, Integer> m = new HashMap<>();
            m.put("from", w[0]);
            m.put("to", w[1]);
            m.put("mud", mud);
            return m;
        }

        int time(int i) {
            int[] w = road.waits.get(i);
            if (road.takes == null) return w[2] + mud;
            Map<String, Integer> m = names(w);
            m.put("time", w[2]);
            return (int) Math.max(0, Math.min(999, road.takes.tell(m)));
        }

        boolean keeps(int i, int late) {
            if (late < 1) return false;
            if (road.keeps == null) return true;
            Map<String, Integer> m = names(road.waits.get(i));
            m.put("late", late);
            m.put("patience", road.coaches.get(road.waits.get(i)[1])[1]);
            return road.keeps.tell(m) != 0;
        }

        /** A round; answers for which wait each coach was the latest. */
        int[] round(int out) {
            int k = sets.size() + 1;
            int[] now = new int[n()];
            int[] why = new int[n()];
            sets.add(now);
            for (int c = 0; c < n(); c++) {
                int most = 0;
                why[c] = -1;
                for (int i = 0; i < road.waits.size(); i++) {
                    int[] w = road.waits.get(i);
                    if (w[1] != c) continue;
                    int late = setOut(w[0], k - w[3]) + time(i) - planned(c, k);
                    if (i != out && keeps(i, late) && late > most) {
                        most = late;
                        why[c] = i;
                    }
                }
                now[c] = planned(c, k) + Math.min(100000, most + held[c]);
            }
            Arrays.fill(held, 0);
            return why;
        }

        boolean calm() {
            for (int c = 0; c < n(); c++) {
                if (late(c) > 0 || late(c, sets.size() - 1) > 0 || held[c] > 0) return false;
            }
            return true;
        }

        boolean deed(long v) {
            if (v >= 0 && v <= 10) {
                if (v > road.waits.size()) return false;
                round((int) v - 1);
                return true;
            }
            if (v >= 20 && v < 30) {
                mud = (int) v - 20;
                return true;
            }
            if (v >= 100 && v < 200 && (v - 100) / 10 < n()) {
                held[(int) (v - 100) / 10] = (int) (v % 10);
                return true;
            }
            return false;
        }
    }

    // ---- the face, plainly

    World now = new World();
    String tape = "";
    int faultKind;
    int faultPlace = -1;
    List<World> past = new ArrayList<>();
    long[][] trays = new long[4][];
    int[] sorts = new int[4];
    World[] images = new World[2];

    int n() {
        return now.n();
    }

    int waits() {
        return now.road.waits.size();
    }

    boolean no(int c) {
        return c < 0 || c >= n();
    }

    void push(World w) {
        past.add(w);
        if (past.size() > 10) past.remove(0);
    }

    int feed(int... five) {
        if (tape.length() + 20 > 900) return -5;
        StringBuilder b = new StringBuilder(tape);
        for (int v : five) for (int i = 3; i >= 0; i--) b.append((char) (v >> 8 * i & 255));
        tape = b.toString();
        return tape.length();
    }

    int road(int n) {
        if (n < 0 || n > tape.length()) return -3;
        String text = tape.substring(0, n);
        tape = "";
        try {
            Line line = new Parser(text).all();
            faultKind = 0;
            faultPlace = -1;
            now = new World();
            now.road = line;
            now.mud = line.mud;
            now.held = new int[line.coaches.size()];
            past.clear();
            return line.lines;
        } catch (Fault f) {
            faultKind = f.kind;
            faultPlace = f.place;
            return -30 - f.kind;
        }
    }

    int coach(int c, int what) {
        if (no(c) || what < 0 || what > 4) return -2;
        if (what < 2) return now.road.coaches.get(c)[what];
        return what == 4 ? now.held[c] : now.late(c, now.sets.size() - (what - 2));
    }

    int waiting(int w, int what) {
        if (w < 0 || w >= waits() || what < 0 || what > 3) return -2;
        int[] wait = now.road.waits.get(w);
        return what == 3 ? now.time(w) : wait[what == 2 ? 3 : what];
    }

    int by(int deed, int c, boolean which) {
        if (no(c)) return -2;
        if (deed < 0 || deed > waits()) return -5;
        World w = now.copy();
        int[] why = w.round(deed - 1);
        return which ? why[c] : w.late(c);
    }

    int round(int deed) {
        if (deed < 0 || deed > waits()) return -11;
        push(now.copy());
        now.round(deed - 1);
        return Integer.bitCount(now.who());
    }

    int rounds(int n) {
        if (n < 1 || n > 99) return -3;
        push(now.copy());
        for (int i = 0; i < n; i++) now.round(-1);
        return Integer.bitCount(now.who());
    }

    int hold(int c, int n) {
        if (no(c) || n < 0 || n > 9) return -11;
        push(now.copy());
        int was = now.held[c];
        now.held[c] = n;
        return was;
    }

    int mud(int n) {
        if (n < 0 || n > 9) return -11;
        push(now.copy());
        int was = now.mud;
        now.mud = n;
        return was;
    }

    int undo(int n) {
        if (n < 1 || n > 10 || n > past.size()) return -3;
        for (int i = 0; i < n; i++) now = past.remove(past.size() - 1);
        return past.size();
    }

    int judge(int tray, int what) {
        if (tray < 0 || tray > 3 || what < 0 || what > 3) return -2;
        if (trays[tray] == null) return -6;
        World w = now.copy();
        int place = -1;
        for (int i = 0; i < trays[tray].length && place < 0; i++) {
            if (!w.deed(trays[tray][i])) place = i;
        }
        return what == 0 ? place : what == 1 ? (place < 0 ? 0 : 1) : what == 2 ? w.lateAll() : w.who();
    }

    int perform(int tray) {
        if (tray < 0 || tray > 3) return -2;
        if (trays[tray] == null) return -6;
        World was = now.copy();
        int done = 0;
        for (long v : trays[tray]) {
            if (!now.deed(v)) break;
            done++;
        }
        if (done > 0) push(was);
        return done;
    }

    int drawn;

    int draw() {
        drawn = 1103515245 * drawn + 12345;
        return drawn >>> 16;
    }

    int week(int seed, int times) {
        if (times < 1 || times > 40) return -3;
        drawn = seed;
        World was = now.copy();
        int done = 0;
        for (int i = 0; i < times; i++) {
            int sort = draw() % 6;
            boolean could;
            if (sort < 3) {
                could = now.deed(0);
            } else if (sort == 3) {
                could = now.deed(draw() % 11);
            } else if (sort == 4) {
                could = now.deed(20 + draw() % 10);
            } else {
                int c = draw() % 6;
                could = now.deed(100 + 10 * c + draw() % 10);
            }
            if (could) done++;
        }
        if (done > 0) push(was);
        return done;
    }

    int late(int c, int n, boolean sets) {
        if (no(c)) return -2;
        if (n < 1 || n > 999) return -3;
        World w = now.copy();
        for (int i = 0; i < n; i++) w.round(-1);
        return sets ? w.setOut(c, w.sets.size()) : w.late(c);
    }

    int calm() {
        World w = now.copy();
        for (int i = 0; i <= 999; i++) {
            if (w.calm()) return i;
            w.round(-1);
        }
        return -1;
    }

    // A set of waits is a ring, if it is one chain that comes back and no coach is twice a to in it.
    boolean isRing(int set) {
        List<int[]> left = new ArrayList<>();
        int tos = 0;
        for (int i = 0; i < waits(); i++) {
            if ((set >> i & 1) == 0) continue;
            int[] w = now.road.waits.get(i);
            if ((tos >> w[1] & 1) != 0) return false;
            tos |= 1 << w[1];
            left.add(w);
        }
        if (left.isEmpty()) return false;
        int first = left.get(0)[0];
        int here = left.remove(0)[1];
        while (!left.isEmpty()) {
            int found = -1;
            for (int i = 0; i < left.size(); i++) if (left.get(i)[0] == here) found = i;
            if (found < 0) return false;
            here = left.remove(found)[1];
        }
        return here == first;
    }

    List<Integer> ringSets() {
        List<Integer> all = new ArrayList<>();
        for (int set = 1; set < 1 << waits(); set++) if (isRing(set)) all.add(set);
        return all;
    }

    /** Pace as a fraction {above, below}. */
    long[] pace(int set) {
        long times = 0;
        long lags = 0;
        for (int i = 0; i < waits(); i++) {
            if ((set >> i & 1) != 0) {
                times += now.time(i);
                lags += now.road.waits.get(i)[3];
            }
        }
        return new long[] {times, lags};
    }

    long[] slowestWithout(int out) {
        long[] most = {-1, 1};
        for (int set : ringSets()) {
            long[] p = pace(set);
            if ((set & out) == 0 && p[0] * most[1] > most[0] * p[1]) most = p;
        }
        return most;
    }

    static long lowest(long above, long below, int what) {
        long g = 1;
        for (long d = 1; d <= below; d++) if (above % d == 0 && below % d == 0) g = d;
        return (what == 0 ? above : below) / g;
    }

    int slowest(int what) {
        if (what < 0 || what > 1) return -2;
        long[] s = slowestWithout(0);
        return s[0] < 0 ? -1 : (int) lowest(s[0], s[1], what);
    }

    int slow() {
        long[] s = slowestWithout(0);
        int bits = 0;
        for (int set : ringSets()) {
            long[] p = pace(set);
            if (p[0] * s[1] != s[0] * p[1]) continue;
            for (int i = 0; i < waits(); i++) if ((set >> i & 1) != 0) bits |= 1 << now.road.waits.get(i)[0];
        }
        return bits;
    }

    /** The least hours by which a period is kept, null if none, without some waits. */
    long[] hours(int p, int out) {
        long[] h = new long[n()];
        for (int pass = 0; pass < 3000; pass++) {
            boolean moved = false;
            for (int i = 0; i < waits(); i++) {
                int[] w = now.road.waits.get(i);
                if ((out >> i & 1) == 0 && h[w[0]] + now.time(i) - (long) p * w[3] > h[w[1]]) {
                    h[w[1]] = h[w[0]] + now.time(i) - (long) p * w[3];
                    moved = true;
                }
            }
            if (!moved) return h;
        }
        return null;
    }

    int period() {
        for (int p = 1; ; p++) {
            boolean kept = true;
            for (int set : ringSets()) if (pace(set)[0] > p * pace(set)[1]) kept = false;
            if (kept) return p;
        }
    }

    int hour(int c, int p) {
        if (no(c)) return -2;
        if (p < 1 || p > 999) return -3;
        long[] h = hours(p, 0);
        return h == null ? -1 : (int) h[c];
    }

    int room(int w) {
        if (w < 0 || w >= waits()) return -2;
        boolean in = false;
        int more = -100000;
        // Goes up while all rings through it would do with as much more.
        for (int set : ringSets()) in |= (set >> w & 1) != 0;
        if (!in) return -1;
        for (; ; more++) {
            boolean ok = true;
            for (int set : ringSets()) {
                if ((set >> w & 1) != 0 && pace(set)[0] + more + 1 > now.road.period * pace(set)[1]) ok = false;
            }
            if (!ok) return more < 0 ? more - 1000000 : more;
        }
    }

    int leave() {
        int best = -1;
        long[] least = null;
        for (int w = 0; w < waits(); w++) {
            long[] s = slowestWithout(1 << w);
            if (least == null || s[0] * least[1] < least[0] * s[1]) {
                least = s;
                best = w;
            }
        }
        return best;
    }

    int leaves(int p, int what) {
        if (what < 0 || what > 1) return -2;
        if (p < 1 || p > 999) return -3;
        for (int many = 0; ; many++) {
            for (int out = 0; out < 1 << waits(); out++) {
                if (Integer.bitCount(out) == many && hours(p, out) != null) return what == 0 ? many : out;
            }
        }
    }

    World planned(int c, int n) {
        World w = new World();
        w.road = now.road;
        w.mud = now.mud;
        w.held = new int[n()];
        w.held[c] = n;
        return w;
    }

    int spread(int c, int n, int what) {
        if (no(c) || what < 0 || what > 3) return -2;
        if (n < 0 || n > 99) return -3;
        World w = planned(c, n);
        int[] told = new int[4];
        for (int k = 1; k <= 99; k++) {
            w.round(-1);
            told[0] += Integer.bitCount(w.who());
            told[1] += w.lateAll();
            if (w.who() != 0) told[2] = k;
            told[3] |= w.who();
        }
        return told[what];
    }

    int leeway(int c) {
        if (no(c)) return -2;
        int best = -1;
        for (int n = 0; n <= 99; n++) {
            World w = planned(c, n);
            int who = 0;
            for (int k = 1; k <= 99; k++) {
                w.round(-1);
                who |= w.who();
            }
            if ((who & ~(1 << c)) == 0) best = n;
        }
        return best;
    }

    /** All rows of some rounds, in their order. */
    void allRows(World w, int left, List<Integer> row, List<List<Integer>> rows, List<World> ends) {
        if (left == 0) {
            rows.add(new ArrayList<>(row));
            ends.add(w);
            return;
        }
        for (int v = 0; v <= waits(); v++) {
            World next = w.copy();
            next.round(v - 1);
            row.add(v);
            allRows(next, left - 1, row, rows, ends);
            row.remove(row.size() - 1);
        }
    }

    List<Integer> soonest() {
        for (int n = 0; n <= 5; n++) {
            List<List<Integer>> rows = new ArrayList<>();
            List<World> ends = new ArrayList<>();
            allRows(now, n, new ArrayList<>(), rows, ends);
            for (int i = 0; i < rows.size(); i++) if (ends.get(i).calm()) return rows.get(i);
        }
        return null;
    }

    int rows(int c, int n) {
        if (no(c)) return -2;
        if (n < 0 || n > 4) return -3;
        List<World> ends = new ArrayList<>();
        allRows(now, n, new ArrayList<>(), new ArrayList<>(), ends);
        int count = 0;
        for (World w : ends) if (w.late(c) == 0) count++;
        return count;
    }

    int muds(int tray, int c) {
        if (tray < 0 || tray > 3 || no(c)) return -2;
        if (trays[tray] == null) return -6;
        if (trays[tray].length < 1 || trays[tray].length > 8) return -4;
        for (long v : trays[tray]) if (v < 0) return -3;
        int bits = 0;
        for (int m = 0; m < 10; m++) {
            World w = now.copy();
            w.mud = m;
            boolean so = true;
            for (long v : trays[tray]) {
                w.round(-1);
                so &= w.late(c) == v;
            }
            if (so) bits |= 1 << m;
        }
        return bits;
    }

    int look(int tray, int c) {
        int seen = muds(tray, c);
        if (seen < 0) return seen;
        if (seen == 0) return -1;
        int best = -1;
        int least = 99;
        for (int d = 0; d < n(); d++) {
            Map<Integer, Integer> groups = new HashMap<>();
            int most = 0;
            for (int m = 0; m < 10; m++) {
                if ((seen >> m & 1) == 0) continue;
                World w = now.copy();
                w.mud = m;
                w.round(-1);
                most = Math.max(most, groups.merge(w.late(d), 1, Integer::sum));
            }
            if (most < least) {
                least = most;
                best = d;
            }
        }
        return best;
    }

    long lots(World w, int left, int n, int c) {
        if (left == 0) return c < 0 ? (w.who() == 0 ? 1 : 0) : w.late(c);
        long sum = 0;
        for (int v = 0; v < 10; v++) {
            World next = w.copy();
            if (v < n()) next.held[v] += n;
            next.round(-1);
            sum += lots(next, left - 1, n, c);
        }
        return sum;
    }

    int chance(int n, int k, int what) {
        if (what < 0 || what > 1) return -2;
        if (n < 0 || n > 99 || k < 1 || k > 4) return -3;
        return (int) lowest(lots(now, k, n, -1), (long) Math.pow(10, k), what);
    }

    long mean(int c, int n, int k, int what) {
        if (no(c) || what < 0 || what > 1) return -2;
        if (n < 0 || n > 99 || k < 1 || k > 4) return -3;
        return lowest(lots(now, k, n, c), (long) Math.pow(10, k), what);
    }

    int numbers(int tray, int sort, int n) {
        if (tray < 0 || tray > 3 || sort < 0 || sort > 3) return -2;
        if (n < 0 || n > 40) return -3;
        trays[tray] = new long[n];
        sorts[tray] = sort;
        return 0;
    }

    long write(int tray, int i, long v) {
        if (tray < 0 || tray > 3) return -2;
        if (trays[tray] == null) return -6;
        if (i < 0 || i >= trays[tray].length) return -7;
        int shift = 64 - (8 << sorts[tray]);
        trays[tray][i] = v << shift >> shift;
        return trays[tray][i];
    }

    int lists(int tray, int c) {
        if (tray < 0 || tray > 3 || no(c)) return -2;
        if (trays[tray] == null) return -6;
        World w = now.copy();
        for (int i = 0; i < trays[tray].length; i++) {
            w.round(-1);
            write(tray, i, w.late(c));
        }
        return trays[tray].length;
    }

    int image(int i) {
        if (i < 0 || i > 1) return -2;
        images[i] = now.copy();
        return 0;
    }

    int restore(int i) {
        if (i < 0 || i > 1) return -2;
        if (images[i] == null) return -5;
        now = images[i].copy();
        past.clear();
        return 0;
    }

    int count(int what) {
        int[] all = {n(), waits(), now.road.period, now.mud, now.sets.size(), now.lateAll(), now.who(), past.size(),
            tape.length(), now.road.lines};
        return what < 0 || what > 9 ? -1 : all[what];
    }

    // ---- random calls

    static Random random;
    static int wrong;
    static int calls;
    static StringBuilder log = new StringBuilder();

    static int pick(int... some) {
        return some[random.nextInt(some.length)];
    }

    /** Mostly from 0 to most, now and then an edge or beyond. */
    static int about(int most) {
        int r = random.nextInt(30);
        if (r == 0) return -1;
        if (r == 1) return most + 1;
        if (r == 2) return pick(Integer.MIN_VALUE, Integer.MAX_VALUE, 1000, -1000);
        if (r == 3) return most;
        return random.nextInt(Math.max(1, most + 1));
    }

    static String name(boolean inWaits) {
        if (random.nextInt(3) == 0) return String.valueOf(random.nextInt(random.nextInt(8) == 0 ? 1000 : 12));
        if (inWaits) return new String[] {"from", "to", "mud", "late", "late", "patience", "patience"}[random.nextInt(7)];
        return new String[] {"from", "to", "mud", "time", "time"}[random.nextInt(5)];
    }

    static String sum(boolean inWaits, int deep) {
        StringBuilder b = new StringBuilder();
        int terms = 1 + random.nextInt(2);
        for (int i = 0; i < terms; i++) {
            if (i > 0) b.append(random.nextInt(3) == 0 ? " - " : "+");
            b.append(atom(inWaits, deep));
            if (random.nextInt(4) == 0) b.append("*").append(atom(inWaits, deep));
        }
        return b.toString();
    }

    static String atom(boolean inWaits, int deep) {
        int r = deep > 5 ? 9 : random.nextInt(10);
        if (r == 0) return "(" + sum(inWaits, deep + 1) + ")";
        if (r == 1) {
            return "if " + truth(inWaits, deep + 1) + " then " + sum(inWaits, deep + 1) + "\nelse "
                + sum(inWaits, deep + 1) + " end ";
        }
        return name(inWaits);
    }

    static String truth(boolean inWaits, int deep) {
        StringBuilder b = new StringBuilder(unit(inWaits, deep));
        while (random.nextInt(3) == 0) {
            b.append(random.nextBoolean() ? " or " : " and ").append(unit(inWaits, deep));
        }
        return b.toString();
    }

    static String unit(boolean inWaits, int deep) {
        int r = deep > 5 ? 9 : random.nextInt(8);
        if (r == 0) return "not " + unit(inWaits, deep + 1);
        if (r == 1) return "[" + truth(inWaits, deep + 1) + "]";
        return sum(inWaits, deep) + new String[] {"=", "<", ">", " < ", " > "}[random.nextInt(5)] + sum(inWaits, deep);
    }

    static String aRoad() {
        int most = random.nextInt(3) == 0 ? 99 : 12;
        StringBuilder b = new StringBuilder("road period " + (1 + random.nextInt(most)) + " mud " + random.nextInt(10) + ";");
        int coaches = random.nextInt(7);
        for (int c = 0; c < coaches; c++) {
            b.append("coach at " + random.nextInt(most + 1) + " patience " + random.nextInt(most + 1) + ";");
        }
        int waits = coaches == 0 ? 0 : random.nextInt(random.nextInt(3) == 0 ? 11 : 6);
        for (int w = 0; w < waits; w++) {
            int from = random.nextInt(coaches);
            int to = random.nextInt(coaches);
            int lag = from < to && random.nextInt(3) > 0 ? 0 : 1 + random.nextInt(2);
            b.append("wait " + from + " " + to + " takes " + random.nextInt(most + 1) + " lag " + lag + ";");
            if (w == 1 && random.nextInt(3) == 0) b.append("takes:" + sum(false, 0) + ";");
        }
        if (random.nextInt(3) == 0) b.append("takes :" + sum(false, 0) + " ;");
        if (random.nextInt(3) > 0) b.append("waits:" + truth(true, 0) + ";\n");
        if (random.nextInt(4) == 0) b.append("waits:late<patience+" + random.nextInt(20) + ";");
        return b.toString();
    }

    /** A word, a sign or a number left out, put in, or put in the place of another. */
    static String marred(String text) {
        String[] some = {"road", "coach", "wait", "takes", "waits", "lag", ";", ":", "7", "0", "100", "1000", "(", ")", "[",
            "]", "not", "if", "then", "else", "end", "or", "and", "late", "time", "patience", "mud", "=", "+", "-", "*", "A",
            "_", "\t", "\u00e9", "from", "to", "x", " ", "((((((((", "not not not not not not not ", "0"};
        String s = text;
        for (int i = random.nextInt(3); i >= 0; i--) {
            int a = random.nextInt(s.length() + 1);
            int b = random.nextInt(3) == 0 ? Math.min(s.length(), a + random.nextInt(6)) : a;
            String middle = random.nextInt(4) == 0 ? "" : some[random.nextInt(some.length)];
            s = s.substring(0, a) + middle + s.substring(b);
            if (s.isEmpty()) s = " ";
        }
        return s;
    }

    static void due(String call, long got, long want) {
        calls++;
        log.append(call).append(" = ").append(want).append('\n');
        if (got != want) {
            wrong++;
            if (wrong < 4) System.out.println("---- a run\n" + log + "but the last one answered " + got);
        }
    }

    static void tell(CoachWaits x, PlainReckoning y, String told) {
        String text = told.length() > 900 ? told.substring(0, 900) : told;
        log.append("text: ").append(text.replace("\n", "\\n")).append('\n');
        for (int i = 0; i < text.length(); i += 20) {
            int[] v = new int[5];
            for (int j = 0; j < 20; j++) {
                int at = i + j;
                v[j / 4] = v[j / 4] << 8 | (at < text.length() ? text.charAt(at) & 255 : 32);
            }
            due("feed", x.feed(v[0], v[1], v[2], v[3], v[4]), y.feed(v));
        }
        int n = random.nextInt(12) == 0 ? about(text.length() + 20) : text.length();
        due("road(" + n + ")", x.road(n), y.road(n));
        due("fault(0)", x.fault(0), y.faultKind);
        due("fault(1)", x.fault(1), y.faultPlace);
        due("fault(2)", x.fault(2), -1);
    }

    static void deeds(CoachWaits x, PlainReckoning y) {
        int c = about(y.n() - 1);
        int n;
        switch (random.nextInt(12)) {
            case 0: case 1: case 2:
                n = about(y.waits());
                due("round(" + n + ")", x.round(n), y.round(n));
                break;
            case 3:
                n = about(random.nextInt(6) == 0 ? 99 : 6);
                due("rounds(" + n + ")", x.rounds(n), y.rounds(n));
                break;
            case 4: case 5:
                n = about(9);
                due("hold(" + c + ", " + n + ")", x.hold(c, n), y.hold(c, n));
                break;
            case 6:
                n = about(random.nextBoolean() ? 9 : 1);
                due("mud(" + n + ")", x.mud(n), y.mud(n));
                break;
            case 7: case 8:
                n = random.nextInt(4) == 0 ? about(10) : 1;
                due("undo(" + n + ")", x.undo(n), y.undo(n));
                break;
            case 9:
                int seed = random.nextInt();
                n = about(random.nextInt(3) == 0 ? 40 : 9);
                due("week(" + seed + ", " + n + ")", x.week(seed, n), y.week(seed, n));
                break;
            case 10:
                n = about(1);
                due("image(" + n + ")", x.image(n), y.image(n));
                break;
            default:
                if (random.nextInt(4) == 0) {
                    n = about(1);
                    due("restore(" + n + ")", x.restore(n), y.restore(n));
                }
                break;
        }
        int what = about(10);
        due("count(" + what + ")", x.count(what), y.count(what));
    }

    static void trays(CoachWaits x, PlainReckoning y) {
        int tray = about(3);
        int sort = about(3);
        int n = about(random.nextInt(3) == 0 ? 40 : 4);
        if (random.nextInt(3) > 0) due("numbers(" + tray + ", " + sort + ", " + n + ")", x.numbers(tray, sort, n), y.numbers(tray, sort, n));
        for (int i = 0; i < 4; i++) {
            int at = about(3);
            long v = random.nextInt(12) == 0 ? random.nextLong()
                : pick(random.nextInt(y.waits() + 1), 0, 20 + random.nextInt(10), 100 + random.nextInt(10 * y.n() + 1), random.nextInt(220) - 5);
            due("write(" + tray + ", " + at + ", " + v + ")", x.write(tray, at, v), y.write(tray, at, v));
        }
        int what = about(3);
        due("judge(" + tray + ", " + what + ")", x.judge(tray, what), y.judge(tray, what));
        due("judge(" + tray + ", 0)", x.judge(tray, 0), y.judge(tray, 0));
        if (random.nextInt(3) == 0) due("perform(" + tray + ")", x.perform(tray), y.perform(tray));
        int c = about(y.n() - 1);
        int d = about(y.n() - 1);
        if (random.nextInt(3) == 0) due("numbers(" + tray + ", " + sort + ", 2)", x.numbers(tray, sort, 2), y.numbers(tray, sort, 2));
        if (random.nextInt(3) > 0) due("lists(" + tray + ", " + c + ")", x.lists(tray, c), y.lists(tray, c));
        if (random.nextInt(3) == 0) due("mud", x.mud(5), y.mud(5));
        due("muds(" + tray + ", " + d + ")", x.muds(tray, d), y.muds(tray, d));
        due("muds(" + tray + ", " + c + ")", x.muds(tray, c), y.muds(tray, c));
        due("look(" + tray + ", " + c + ")", x.look(tray, c), y.look(tray, c));
        for (int i = 0; i < 3; i++) due("write(" + tray + ", " + i + ", 3)", x.write(tray, i, 3), y.write(tray, i, 3));
    }

    static void asks(CoachWaits x, PlainReckoning y) {
        int c = about(y.n() - 1);
        int w = about(y.waits() - 1);
        int n = about(random.nextInt(8) == 0 ? 999 : 20);
        for (int i = -1; i < 6; i++) due("coach(" + c + ", " + i + ")", x.coach(c, i), y.coach(c, i));
        for (int i = -1; i < 5; i++) due("waiting(" + w + ", " + i + ")", x.waiting(w, i), y.waiting(w, i));
        int deed = random.nextInt(9) == 0 ? about(200) : about(y.waits());
        due("by(" + deed + ", " + c + ")", x.by(deed, c), y.by(deed, c, false));
        due("forWhich(" + deed + ", " + c + ")", x.forWhich(deed, c), y.by(deed, c, true));
        due("late(" + c + ", " + n + ")", x.late(c, n), y.late(c, n, false));
        due("sets(" + c + ", " + n + ")", x.sets(c, n), y.late(c, n, true));
        if (random.nextInt(3) == 0) due("calm()", x.calm(), y.calm());
        due("slowest(0)", x.slowest(0), y.slowest(0));
        due("slowest(1)", x.slowest(1), y.slowest(1));
        due("slow()", x.slow(), y.slow());
        due("rings()", x.rings(), y.ringSets().size());
        int what = about(1);
        int p = random.nextInt(3) == 0 ? about(999) : Math.max(1, Math.min(999, x.period() - random.nextInt(4)));
        due("slowest(" + what + ")", x.slowest(what), y.slowest(what));
        due("hour(" + c + ", " + p + ")", x.hour(c, p), y.hour(c, p));
        due("leave()", x.leave(), y.leave());
        if (random.nextInt(8) == 0) {
            due("period()", x.period(), y.period());
            if (y.waits() < 6) due("room(" + w + ")", x.room(w), y.room(w));
            if (y.waits() < 6) due("leaves(" + p + ", " + what + ")", x.leaves(p, what), y.leaves(p, what));
        }
    }

    static void dear(CoachWaits x, PlainReckoning y) {
        int c = about(y.n() - 1);
        int n = about(random.nextInt(3) == 0 ? 99 : 12);
        int what = about(3);
        due("spread(" + c + ", " + n + ", " + what + ")", x.spread(c, n, what), y.spread(c, n, what));
        if (random.nextInt(10) == 0) due("leeway(" + c + ")", x.leeway(c), y.leeway(c));
        if (y.waits() < 5 || random.nextInt(60) == 0) {
            List<Integer> row = y.soonest();
            due("soonest()", x.soonest(), row == null ? -1 : row.size());
            for (int i = 0; i < 6; i++) {
                due("way(" + i + ")", x.way(i), row != null && i < row.size() ? row.get(i) : -1);
            }
        }
        due("way(-1)", x.way(-1), -3);
        int many = about(y.waits() < 5 || random.nextInt(20) == 0 ? 4 : 2);
        due("rows(" + c + ", " + many + ")", x.rows(c, many), y.rows(c, many));
        int k = 1 + about(random.nextInt(10) == 0 ? 3 : 1);
        int half = about(1);
        due("chance(" + n + ", " + k + ", " + half + ")", x.chance(n, k, half), y.chance(n, k, half));
        due("mean(" + c + ", " + n + ", " + k + ", " + half + ")", x.mean(c, n, k, half), y.mean(c, n, k, half));
    }

    static void run(int number) {
        random = new Random(number);
        log = new StringBuilder("run " + number + "\n");
        CoachWaits x = new CoachWaits();
        PlainReckoning y = new PlainReckoning();
        if (random.nextInt(20) > 0) tell(x, y, aRoad());
        int parts = 10 + random.nextInt(10);
        for (int i = 0; i < parts; i++) {
            deeds(x, y);
            switch (random.nextInt(10)) {
                case 0: tell(x, y, marred(aRoad())); break;
                case 1: tell(x, y, random.nextInt(3) == 0 ? marred(aRoad()) : aRoad()); break;
                case 2: case 3: trays(x, y); break;
                case 4: case 5: asks(x, y); break;
                case 6: dear(x, y); break;
                default: deeds(x, y); break;
            }
        }
    }

    static void texts(int number) {
        random = new Random(number);
        CoachWaits x = new CoachWaits();
        PlainReckoning y = new PlainReckoning();
        for (int i = 0; i < 10; i++) {
            log = new StringBuilder("texts " + number + "\n");
            tell(x, y, marred(aRoad()));
        }
    }

    public static void main(String[] args) {
        int first = args.length > 0 ? Integer.parseInt(args[0]) : 0;
        int many = args.length > 1 ? Integer.parseInt(args[1]) : 400;
        for (int i = first; i < first + many; i++) run(i);
        for (int i = first; i < first + 5 * many; i++) texts(i);
        System.out.println(calls + " calls, " + wrong + " not as reckoned plainly");
        if (wrong != 0) System.exit(1);
    }
}
