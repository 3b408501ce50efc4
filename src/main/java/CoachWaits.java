import java.util.Arrays;

/** Coaches that wait for one another on a posting road: the document's numbered promises, call by call. */
public final class CoachWaits {

    public static final int NONE = -1;

    private static final int NO_SUCH = -2;
    private static final int BAD_NUMBER = -3;
    private static final int TOO_MANY = -4;
    private static final int NOT_NOW = -5;
    private static final int MISSING = -6;
    private static final int NO_PLACE = -7;
    private static final int WHY_NOT = -11;
    private static final int FAULTY = -30;

    private static final int COACHES = 6;
    private static final int WAITS = 10;
    private static final int MUDS = 10;
    private static final int TAPE = 900;
    private static final int TRAYS = 4;
    private static final int PLACES = 40;
    private static final int IMAGES = 2;
    private static final int UNDOABLE = 10;
    private static final int LATEST = 100000;
    private static final int FARTHEST = 999;
    private static final int SPREAD_ROUNDS = 99;
    private static final int MOST_HELD = 99;
    private static final int LOTS = 10;
    private static final int MOST_SEEN = 8;

    private final Tokens tape = new Tokens();
    private final Road told = new Road();
    private final Road draft = new Road();
    private final Reader reader = new Reader(tape, draft);
    private final Stand now = new Stand();
    private final Stand ahead = new Stand();
    private final Stand probe = new Stand();
    private final Going going = new Going(told);
    private final Rings ringed = new Rings(told, going, now);
    private final Branches branches = new Branches(told, going);
    private final Past past = new Past();
    private final Tray[] trays = new Tray[TRAYS];
    private final Road[] imageRoads = new Road[IMAGES];
    private final Stand[] imageStands = new Stand[IMAGES];
    private final boolean[] imageMade = new boolean[IMAGES];
    private final int[] firstLate = new int[MUDS * COACHES];

    public CoachWaits() {
        for (int i = 0; i < TRAYS; i++) {
            trays[i] = new Tray();
        }
        for (int i = 0; i < IMAGES; i++) {
            imageRoads[i] = new Road();
            imageStands[i] = new Stand();
        }
    }

    // ---- the road

    public int feed(int a, int b, int c, int d, int e) {
        if (!tape.hasSpace(20)) {
            return NOT_NOW;
        }
        tape.put(a);
        tape.put(b);
        tape.put(c);
        tape.put(d);
        tape.put(e);
        return tape.size();
    }

    public int road(int n) {
        if (n < 0 || n > tape.size()) {
            return BAD_NUMBER;
        }
        reader.read(n);
        tape.empty();
        if (reader.faultKind() != 0) {
            return FAULTY - reader.faultKind();
        }
        told.copy(draft);
        now.begin(told.firstMud);
        setOutAnew();
        return told.lines;
    }

    public int fault(int what) {
        if (what == 0) {
            return reader.faultKind();
        }
        return what == 1 ? reader.faultPlace() : NONE;
    }

    public int coach(int c, int what) {
        if (!isCoach(c)) {
            return NO_SUCH;
        }
        switch (what) {
            case 0: return told.hourOf(c);
            case 1: return told.patienceOf(c);
            case 2: return now.lastOf(c);
            case 3: return now.earlierOf(c);
            case 4: return now.heldOf(c);
            default: return NO_SUCH;
        }
    }

    public int waiting(int w, int what) {
        if (!told.hasWait(w)) {
            return NO_SUCH;
        }
        switch (what) {
            case 0: return told.fromOf(w);
            case 1: return told.toOf(w);
            case 2: return told.lagOf(w);
            case 3: return going.timeOf(w, now.mudNow);
            default: return NO_SUCH;
        }
    }

    public int by(int deed, int c) {
        if (!isCoach(c)) {
            return NO_SUCH;
        }
        if (!isRound(deed)) {
            return NOT_NOW;
        }
        tryRound(deed);
        return probe.lastOf(c);
    }

    public int forWhich(int deed, int c) {
        if (!isCoach(c)) {
            return NO_SUCH;
        }
        if (!isRound(deed)) {
            return NOT_NOW;
        }
        tryRound(deed);
        return going.causeOf(c);
    }

    // ---- deeds

    public int round(int deed) {
        if (!isRound(deed)) {
            return WHY_NOT;
        }
        past.push(now);
        doDeed(now, deed);
        return now.lateCount();
    }

    public int rounds(int n) {
        if (n < 1 || n > 99) {
            return BAD_NUMBER;
        }
        past.push(now);
        going.go(now, n);
        return now.lateCount();
    }

    public int hold(int c, int n) {
        if (!isCoach(c) || n < 0 || n > 9) {
            return WHY_NOT;
        }
        int was = now.heldOf(c);
        past.push(now);
        now.holdBy(c, n);
        return was;
    }

    public int mud(int n) {
        if (n < 0 || n >= MUDS) {
            return WHY_NOT;
        }
        int was = now.mudNow;
        past.push(now);
        now.mudNow = n;
        return was;
    }

    public int undo(int n) {
        if (n < 1 || n > past.size()) {
            return BAD_NUMBER;
        }
        past.back(n, now);
        return past.size();
    }

    public int judge(int tray, int what) {
        Tray t = trayAt(tray);
        if (t == null || what < 0 || what > 3) {
            return NO_SUCH;
        }
        if (t.isMissing()) {
            return MISSING;
        }
        probe.copy(now);
        int done = doAll(probe, t);
        boolean all = done == t.size();
        switch (what) {
            case 0: return all ? NONE : done;
            case 1: return all ? 0 : 1;
            case 2: return probe.lateSum();
            default: return probe.lateBits();
        }
    }

    public int perform(int tray) {
        Tray t = trayAt(tray);
        if (t == null) {
            return NO_SUCH;
        }
        if (t.isMissing()) {
            return MISSING;
        }
        ahead.copy(now);
        int done = doAll(now, t);
        if (done > 0) {
            past.push(ahead);
        }
        return done;
    }

    public int week(int seed, int times) {
        if (times < 1 || times > 40) {
            return BAD_NUMBER;
        }
        ahead.copy(now);
        int done = doWeek(seed, times);
        if (done > 0) {
            past.push(ahead);
        }
        return done;
    }

    // ---- going

    public int late(int c, int n) {
        if (!isCoach(c)) {
            return NO_SUCH;
        }
        if (n < 1 || n > FARTHEST) {
            return BAD_NUMBER;
        }
        return lateGoing(c, n);
    }

    public int sets(int c, int n) {
        if (!isCoach(c)) {
            return NO_SUCH;
        }
        if (n < 1 || n > FARTHEST) {
            return BAD_NUMBER;
        }
        return told.period * (now.roundsMade + n) + told.hourOf(c) + lateGoing(c, n);
    }

    public int calm() {
        probe.copy(now);
        for (int n = 0; n <= FARTHEST; n++) {
            if (probe.isCalm()) {
                return n;
            }
            if (!going.turn(probe, NONE)) {
                return NONE;
            }
        }
        return NONE;
    }

    // ---- rings

    public int slowest(int what) {
        if (what < 0 || what > 1) {
            return NO_SUCH;
        }
        int ring = ringed.slowestWithout(0);
        if (ring == NONE) {
            return NONE;
        }
        int above = ringed.timesOf(ring);
        int below = ringed.lagsOf(ring);
        return (int) lowest(above, below, what);
    }

    public int slow() {
        return ringed.slowCoaches();
    }

    public int rings() {
        return ringed.size();
    }

    public int period() {
        return ringed.leastPeriod();
    }

    public int hour(int c, int p) {
        if (!isCoach(c)) {
            return NO_SUCH;
        }
        if (p < 1 || p > FARTHEST) {
            return BAD_NUMBER;
        }
        return ringed.keepingHour(c, p);
    }

    public int room(int w) {
        if (!told.hasWait(w)) {
            return NO_SUCH;
        }
        if (!ringed.isInRing(w)) {
            return NONE;
        }
        int space = ringed.spaceOf(w);
        return space < 0 ? space - 1000000 : space;
    }

    public int leave() {
        return ringed.bestOut();
    }

    public int leaves(int p, int what) {
        if (what < 0 || what > 1) {
            return NO_SUCH;
        }
        if (p < 1 || p > FARTHEST) {
            return BAD_NUMBER;
        }
        int out = ringed.fewestOut(p);
        return what == 0 ? Integer.bitCount(out) : out;
    }

    // ---- spread

    public int spread(int c, int n, int what) {
        if (!isCoach(c) || what < 0 || what > 3) {
            return NO_SUCH;
        }
        if (n < 0 || n > MOST_HELD) {
            return BAD_NUMBER;
        }
        planWithHeld(c, n);
        int times = 0;
        int sum = 0;
        int last = 0;
        int who = 0;
        for (int k = 1; k <= SPREAD_ROUNDS; k++) {
            going.turn(probe, NONE);
            times += probe.lateCount();
            sum += probe.lateSum();
            last = probe.isQuiet() ? last : k;
            who |= probe.lateBits();
        }
        switch (what) {
            case 0: return times;
            case 1: return sum;
            case 2: return last;
            default: return who;
        }
    }

    public int leeway(int c) {
        if (!isCoach(c)) {
            return NO_SUCH;
        }
        for (int n = MOST_HELD; n >= 0; n--) {
            if (harmsNobodyElse(c, n)) {
                return n;
            }
        }
        return NONE;
    }

    // ---- in time

    public int soonest() {
        return branches.fewest(now);
    }

    public int way(int i) {
        if (i < 0) {
            return BAD_NUMBER;
        }
        int found = branches.fewest(now);
        return i < found ? branches.deedAt(i) : NONE;
    }

    public int rows(int c, int n) {
        if (!isCoach(c)) {
            return NO_SUCH;
        }
        if (n < 0 || n > 4) {
            return BAD_NUMBER;
        }
        return branches.rowsInTime(now, n, c);
    }

    // ---- seen

    public int muds(int tray, int c) {
        Tray t = trayAt(tray);
        int refusal = refusalOfSeen(t, c);
        return t == null || refusal != 0 ? refusal : mudsSeen(t, c);
    }

    public int look(int tray, int c) {
        Tray t = trayAt(tray);
        int refusal = refusalOfSeen(t, c);
        if (t == null || refusal != 0) {
            return refusal;
        }
        int seen = mudsSeen(t, c);
        return seen == 0 ? NONE : bestToLookAt(seen);
    }

    // ---- chances

    public int chance(int n, int k, int what) {
        if (what < 0 || what > 1) {
            return NO_SUCH;
        }
        if (n < 0 || n > MOST_HELD || k < 1 || k > 4) {
            return BAD_NUMBER;
        }
        return (int) lowest(branches.lotsDrawn(now, k, n, NONE), lotsOf(k), what);
    }

    public long mean(int c, int n, int k, int what) {
        if (!isCoach(c) || what < 0 || what > 1) {
            return NO_SUCH;
        }
        if (n < 0 || n > MOST_HELD || k < 1 || k > 4) {
            return BAD_NUMBER;
        }
        return lowest(branches.lotsDrawn(now, k, n, c), lotsOf(k), what);
    }

    // ---- trays, images

    public int numbers(int tray, int sort, int n) {
        Tray t = trayAt(tray);
        if (t == null || sort < 0 || sort > 3) {
            return NO_SUCH;
        }
        if (n < 0 || n > PLACES) {
            return BAD_NUMBER;
        }
        t.renew(sort, n);
        return 0;
    }

    public long write(int tray, int i, long v) {
        Tray t = trayAt(tray);
        if (t == null) {
            return NO_SUCH;
        }
        if (t.isMissing()) {
            return MISSING;
        }
        if (i < 0 || i >= t.size()) {
            return NO_PLACE;
        }
        t.put(i, v);
        return t.at(i);
    }

    public int lists(int tray, int c) {
        Tray t = trayAt(tray);
        if (t == null || !isCoach(c)) {
            return NO_SUCH;
        }
        if (t.isMissing()) {
            return MISSING;
        }
        probe.copy(now);
        for (int i = 0; i < t.size(); i++) {
            going.turn(probe, NONE);
            t.put(i, probe.lastOf(c));
        }
        return t.size();
    }

    public int image(int i) {
        if (i < 0 || i >= IMAGES) {
            return NO_SUCH;
        }
        imageRoads[i].copy(told);
        imageStands[i].copy(now);
        imageMade[i] = true;
        return 0;
    }

    public int restore(int i) {
        if (i < 0 || i >= IMAGES) {
            return NO_SUCH;
        }
        if (!imageMade[i]) {
            return NOT_NOW;
        }
        told.copy(imageRoads[i]);
        now.copy(imageStands[i]);
        setOutAnew();
        return 0;
    }

    public int count(int what) {
        switch (what) {
            case 0: return told.coaches;
            case 1: return told.waits;
            case 2: return told.period;
            case 3: return now.mudNow;
            case 4: return now.roundsMade;
            case 5: return now.lateSum();
            case 6: return now.lateBits();
            case 7: return past.size();
            case 8: return tape.size();
            case 9: return told.lines;
            default: return NONE;
        }
    }

    // ---- what several calls share

    /** Another road: nothing reckoned for the one ahead of it holds any more. */
    private void setOutAnew() {
        past.forget();
        going.forget();
        ringed.find();
    }

    private boolean isCoach(int c) {
        return c >= 0 && c < told.coaches;
    }

    private Tray trayAt(int i) {
        return i >= 0 && i < TRAYS ? trays[i] : null;
    }

    private boolean isRound(long deed) {
        return deed >= 0 && deed <= told.waits;
    }

    private void tryRound(int deed) {
        probe.copy(now);
        going.turn(probe, deed - 1);
    }

    /** Does a DEED, if it can be, and tells whether it could. */
    private boolean doDeed(Stand s, long v) {
        if (isRound(v)) {
            going.turn(s, (int) v - 1);
            return true;
        }
        if (v >= 20 && v <= 29) {
            s.mudNow = (int) v - 20;
            return true;
        }
        if (v < 100 || v > 199) {
            return false;
        }
        int c = ((int) v - 100) / 10;
        if (!isCoach(c)) {
            return false;
        }
        s.holdBy(c, (int) v % 10);
        return true;
    }

    private int doAll(Stand s, Tray t) {
        int done = 0;
        while (done < t.size() && doDeed(s, t.at(done))) {
            done++;
        }
        return done;
    }

    private int doWeek(int seed, int times) {
        int x = seed;
        int done = 0;
        for (int i = 0; i < times; i++) {
            x = drawn(x);
            int sort = (x >>> 16) % 6;
            int deed = 0;
            if (sort > 2) {
                x = drawn(x);
                deed = weekDeed(sort, x >>> 16);
            }
            if (sort == 5) {
                x = drawn(x);
                deed += (x >>> 16) % 10;
            }
            if (doDeed(now, deed)) {
                done++;
            }
        }
        return done;
    }

    private static int drawn(int x) {
        return 1103515245 * x + 12345;
    }

    private static int weekDeed(int sort, int draw) {
        switch (sort) {
            case 3: return draw % 11;
            case 4: return 20 + draw % MUDS;
            default: return 100 + 10 * (draw % COACHES);
        }
    }

    private int lateGoing(int c, int n) {
        probe.copy(now);
        going.go(probe, n);
        return probe.lastOf(c);
    }

    private void planWithHeld(int c, int n) {
        probe.begin(now.mudNow);
        probe.holdBy(c, n);
    }

    private boolean harmsNobodyElse(int c, int n) {
        planWithHeld(c, n);
        for (int k = 0; k < SPREAD_ROUNDS; k++) {
            boolean changed = going.turn(probe, NONE);
            if ((probe.lateBits() & ~(1 << c)) != 0) {
                return false;
            }
            if (!changed) {
                return true;
            }
        }
        return true;
    }

    /** The code by which muds() and look() refuse, 0 if they don't. */
    private int refusalOfSeen(Tray t, int c) {
        if (t == null || !isCoach(c)) {
            return NO_SUCH;
        }
        if (t.isMissing()) {
            return MISSING;
        }
        if (t.size() < 1 || t.size() > MOST_SEEN) {
            return TOO_MANY;
        }
        for (int i = 0; i < t.size(); i++) {
            if (t.at(i) < 0) {
                return BAD_NUMBER;
            }
        }
        return 0;
    }

    private int mudsSeen(Tray t, int c) {
        int bits = 0;
        for (int m = 0; m < MUDS; m++) {
            if (isSeenBy(m, t, c)) {
                bits |= 1 << m;
            }
        }
        return bits;
    }

    private boolean isSeenBy(int m, Tray t, int c) {
        probe.copy(now);
        probe.mudNow = m;
        for (int i = 0; i < t.size(); i++) {
            going.turn(probe, NONE);
            if (probe.lastOf(c) != t.at(i)) {
                return false;
            }
        }
        return true;
    }

    private int bestToLookAt(int seen) {
        for (int m = 0; m < MUDS; m++) {
            probe.copy(now);
            probe.mudNow = m;
            going.turn(probe, NONE);
            for (int c = 0; c < COACHES; c++) {
                firstLate[m * COACHES + c] = probe.lastOf(c);
            }
        }
        int best = 0;
        int least = MUDS + 1;
        for (int c = 0; c < told.coaches && c < COACHES; c++) {
            int most = mostAlike(seen, c);
            if (most < least) {
                least = most;
                best = c;
            }
        }
        return best;
    }

    /** The greatest number of seen MUDS by which a COACH is as LATE in the first ROUND. */
    private int mostAlike(int seen, int c) {
        int most = 0;
        for (int m = 0; m < MUDS; m++) {
            int alike = 0;
            for (int o = 0; o < MUDS; o++) {
                boolean same = firstLate[o * COACHES + c] == firstLate[m * COACHES + c];
                if (same && (seen >> o & 1) != 0) {
                    alike++;
                }
            }
            if ((seen >> m & 1) != 0) {
                most = Math.max(most, alike);
            }
        }
        return most;
    }

    private static long lotsOf(int k) {
        long all = 1;
        for (int i = 0; i < k; i++) {
            all *= LOTS;
        }
        return all;
    }

    /** The number above (what 0) or below a fraction in lowest terms. */
    private static long lowest(long above, long below, int what) {
        long a = above;
        long b = below;
        for (int i = 0; i < 100 && b != 0; i++) {
            long rest = a % b;
            a = b;
            b = rest;
        }
        long whole = what == 0 ? above : below;
        return a > 0 ? whole / a : whole;
    }

    /** THE TAPE, and the TOKENS of the text that is read from its beginning. */
    private static final class Tokens {
        private static final int END = 0;
        private static final int BAD = 1;
        private static final int WORD = 2;
        private static final int NUMBER = 3;
        private static final int SIGN = 4;
        private static final String SIGNS = ";:+-*()[]=<>";

        private final byte[] bytes = new byte[TAPE];
        private int filled;
        private int end;
        private int start;
        private int next;
        private int kind;
        private int value;

        int size() {
            return filled;
        }

        boolean hasSpace(int n) {
            return filled + n <= TAPE;
        }

        void put(int four) {
            for (int shift = 24; shift >= 0 && filled < TAPE; shift -= 8) {
                bytes[filled] = (byte) (four >>> shift);
                filled++;
            }
        }

        void empty() {
            filled = 0;
        }

        void open(int n) {
            end = Math.max(0, Math.min(n, filled));
            next = 0;
            step();
        }

        /** Goes on to the next TOKEN; behind the last one END stays. */
        void step() {
            while (next < end && (at(next) == 32 || at(next) == 10)) {
                next++;
            }
            start = next;
            int first = at(next);
            if (next >= end) {
                kind = END;
            } else if (isLetter(first)) {
                kind = WORD;
                while (next < end && isLetter(at(next))) {
                    next++;
                }
            } else if (isDigit(first)) {
                value = 0;
                while (next < end && isDigit(at(next))) {
                    // A number too long is no TOKEN: its value is never asked for.
                    value = next - start < 3 ? value * 10 + at(next) - '0' : value;
                    next++;
                }
                kind = next - start > 3 ? BAD : NUMBER;
            } else if (SIGNS.indexOf((char) first) >= 0) {
                kind = SIGN;
                value = first;
                next++;
            } else {
                kind = BAD;
            }
        }

        /** The byte at a place, -1 where the text has none. */
        private int at(int place) {
            return place >= 0 && place < end && place < TAPE ? bytes[place] & 255 : -1;
        }

        private static boolean isLetter(int sign) {
            return sign >= 'a' && sign <= 'z';
        }

        private static boolean isDigit(int sign) {
            return sign >= '0' && sign <= '9';
        }

        int startPlace() {
            return start;
        }

        boolean isBad() {
            return kind == BAD;
        }

        boolean isEnd() {
            return kind == END;
        }

        boolean isNumber() {
            return kind == NUMBER;
        }

        boolean isSign(char sign) {
            return kind == SIGN && value == sign;
        }

        boolean isWord(String word) {
            if (kind != WORD || next - start != word.length()) {
                return false;
            }
            for (int i = 0; i < word.length(); i++) {
                if (at(start + i) != word.charAt(i)) {
                    return false;
                }
            }
            return true;
        }

        int numberValue() {
            return value;
        }
    }

    /** Reads a text as THE ROAD. After a FAULT nothing is taken any more. */
    private static final class Reader {
        private static final int DEEPEST = 6;
        private static final int WRONG_PLACE = 2;
        private static final int OUT_OF_BOUNDS = 3;
        private static final int ONE_TOO_MANY = 4;

        private final Tokens tokens;
        private final Road into;
        private int kind;
        private int place = NONE;
        private boolean inWaits;

        Reader(Tokens tokens, Road into) {
            this.tokens = tokens;
            this.into = into;
        }

        int faultKind() {
            return kind;
        }

        int faultPlace() {
            return place;
        }

        void read(int n) {
            into.clear();
            kind = 0;
            place = NONE;
            tokens.open(n);
            firstLine();
            for (int i = 0; i < TAPE && isSound() && !tokens.isEnd(); i++) {
                line();
                endLine();
            }
        }

        private boolean isSound() {
            return kind == 0;
        }

        /** The FAULT is at this TOKEN; what no TOKEN begins with is that first of all. */
        private void refuse(int why) {
            if (isSound()) {
                kind = tokens.isBad() ? 1 : why;
                place = tokens.startPlace();
            }
        }

        private void takeWord(String word) {
            if (isSound() && tokens.isWord(word)) {
                tokens.step();
            } else {
                refuse(WRONG_PLACE);
            }
        }

        private void takeSign(char sign) {
            if (isSound() && tokens.isSign(sign)) {
                tokens.step();
            } else {
                refuse(WRONG_PLACE);
            }
        }

        private int takeNumber(int least, int most) {
            if (!isSound() || !tokens.isNumber()) {
                refuse(WRONG_PLACE);
                return least;
            }
            int n = tokens.numberValue();
            if (n < least || n > most) {
                refuse(OUT_OF_BOUNDS);
                return least;
            }
            tokens.step();
            return n;
        }

        private void endLine() {
            takeSign(';');
            into.lines++;
        }

        private void firstLine() {
            takeWord("road");
            takeWord("period");
            into.period = takeNumber(1, 99);
            takeWord("mud");
            into.firstMud = takeNumber(0, MUDS - 1);
            endLine();
        }

        private void line() {
            if (tokens.isWord("coach")) {
                coachLine();
            } else if (tokens.isWord("wait")) {
                waitLine();
            } else if (tokens.isWord("takes")) {
                takesLine();
            } else if (tokens.isWord("waits")) {
                waitsLine();
            } else {
                refuse(WRONG_PLACE);
            }
        }

        private void coachLine() {
            if (into.coaches >= COACHES) {
                refuse(ONE_TOO_MANY);
            }
            takeWord("coach");
            takeWord("at");
            int hour = takeNumber(0, 99);
            takeWord("patience");
            int patience = takeNumber(0, 99);
            if (isSound()) {
                into.addCoach(hour, patience);
            }
        }

        private void waitLine() {
            if (into.waits >= WAITS) {
                refuse(ONE_TOO_MANY);
            }
            takeWord("wait");
            int from = takeNumber(0, into.coaches - 1);
            int to = takeNumber(0, into.coaches - 1);
            takeWord("takes");
            int takes = takeNumber(0, 99);
            takeWord("lag");
            int lag = takeNumber(from < to ? 0 : 1, 2);
            if (isSound()) {
                into.addWait(from, to, takes, lag);
            }
        }

        private void takesLine() {
            inWaits = false;
            takeWord("takes");
            takeSign(':');
            into.takesBegin = into.codeSize;
            sum(0);
            into.takesEnd = into.codeSize;
        }

        private void waitsLine() {
            inWaits = true;
            takeWord("waits");
            takeSign(':');
            into.waitsBegin = into.codeSize;
            truth(0);
            into.waitsEnd = into.codeSize;
        }

        private void truth(int depth) {
            both(depth);
            for (int i = 0; i < TAPE && isSound() && tokens.isWord("or"); i++) {
                tokens.step();
                both(depth);
                into.emit(Law.OR, 0);
            }
        }

        private void both(int depth) {
            unit(depth);
            for (int i = 0; i < TAPE && isSound() && tokens.isWord("and"); i++) {
                tokens.step();
                unit(depth);
                into.emit(Law.AND, 0);
            }
        }

        private void unit(int depth) {
            if (!isSound()) {
                return;
            }
            if (tokens.isWord("not")) {
                if (opens(depth)) {
                    unit(depth + 1);
                    into.emit(Law.NOT, 0);
                }
            } else if (tokens.isSign('[')) {
                if (opens(depth)) {
                    truth(depth + 1);
                    takeSign(']');
                }
            } else {
                comparison(depth);
            }
        }

        private void comparison(int depth) {
            sum(depth);
            int op = Law.EQUAL;
            if (tokens.isSign('<')) {
                op = Law.LESS;
            } else if (tokens.isSign('>')) {
                op = Law.MORE;
            } else if (!tokens.isSign('=')) {
                refuse(WRONG_PLACE);
            }
            if (isSound()) {
                tokens.step();
                sum(depth);
                into.emit(op, 0);
            }
        }

        private void sum(int depth) {
            term(depth);
            for (int i = 0; i < TAPE && isSound() && isPlusOrMinus(); i++) {
                int op = tokens.isSign('+') ? Law.ADD : Law.SUBTRACT;
                tokens.step();
                term(depth);
                into.emit(op, 0);
            }
        }

        private boolean isPlusOrMinus() {
            return tokens.isSign('+') || tokens.isSign('-');
        }

        private void term(int depth) {
            atom(depth);
            for (int i = 0; i < TAPE && isSound() && tokens.isSign('*'); i++) {
                tokens.step();
                atom(depth);
                into.emit(Law.MULTIPLY, 0);
            }
        }

        private void atom(int depth) {
            if (!isSound()) {
                return;
            }
            if (tokens.isNumber()) {
                into.emit(Law.NUMBER, tokens.numberValue());
                tokens.step();
            } else if (tokens.isSign('(')) {
                if (opens(depth)) {
                    sum(depth + 1);
                    takeSign(')');
                }
            } else if (tokens.isWord("if")) {
                if (opens(depth)) {
                    choice(depth + 1);
                }
            } else {
                takeName(nameSlot());
            }
        }

        /** Takes one of not [ ( if, unless it is the seventh within one another. */
        private boolean opens(int depth) {
            if (depth >= DEEPEST) {
                refuse(ONE_TOO_MANY);
                return false;
            }
            tokens.step();
            return true;
        }

        private void choice(int depth) {
            truth(depth);
            takeWord("then");
            int unless = into.emit(Law.JUMP_UNLESS, 0);
            sum(depth);
            takeWord("else");
            int over = into.emit(Law.JUMP, 0);
            into.aimHere(unless);
            sum(depth);
            takeWord("end");
            into.aimHere(over);
        }

        private void takeName(int slot) {
            if (slot == NONE) {
                refuse(WRONG_PLACE);
                return;
            }
            into.emit(Law.NAME, slot);
            tokens.step();
        }

        /** Which name of this law the TOKEN is, NONE if it is none. */
        private int nameSlot() {
            if (tokens.isWord("from")) {
                return Law.FROM;
            }
            if (tokens.isWord("to")) {
                return Law.TO;
            }
            if (tokens.isWord("mud")) {
                return Law.MUD;
            }
            if (tokens.isWord(inWaits ? "late" : "time")) {
                return Law.TIME_OR_LATE;
            }
            return inWaits && tokens.isWord("patience") ? Law.PATIENCE : NONE;
        }
    }

    /** THE ROAD as it was told; both laws stand in one row of steps for Law. */
    private static final class Road {
        private final int[] hour = new int[COACHES];
        private final int[] patience = new int[COACHES];
        private final int[] from = new int[WAITS];
        private final int[] to = new int[WAITS];
        private final int[] takes = new int[WAITS];
        private final int[] lag = new int[WAITS];
        // Each TOKEN of a law makes one step at most, so the text's length is enough.
        private final int[] code = new int[TAPE];
        private int codeSize;
        private int period = 1;
        private int firstMud;
        private int coaches;
        private int waits;
        private int lines;
        private int takesBegin;
        private int takesEnd;
        private int waitsBegin;
        private int waitsEnd;

        void clear() {
            codeSize = 0;
            period = 1;
            firstMud = 0;
            coaches = 0;
            waits = 0;
            lines = 0;
            takesBegin = 0;
            takesEnd = 0;
            waitsBegin = 0;
            waitsEnd = 0;
        }

        void copy(Road other) {
            System.arraycopy(other.hour, 0, hour, 0, COACHES);
            System.arraycopy(other.patience, 0, patience, 0, COACHES);
            System.arraycopy(other.from, 0, from, 0, WAITS);
            System.arraycopy(other.to, 0, to, 0, WAITS);
            System.arraycopy(other.takes, 0, takes, 0, WAITS);
            System.arraycopy(other.lag, 0, lag, 0, WAITS);
            System.arraycopy(other.code, 0, code, 0, TAPE);
            codeSize = other.codeSize;
            period = other.period;
            firstMud = other.firstMud;
            coaches = other.coaches;
            waits = other.waits;
            lines = other.lines;
            takesBegin = other.takesBegin;
            takesEnd = other.takesEnd;
            waitsBegin = other.waitsBegin;
            waitsEnd = other.waitsEnd;
        }

        void addCoach(int at, int patient) {
            if (coaches >= 0 && coaches < COACHES) {
                hour[coaches] = at;
                patience[coaches] = patient;
                coaches++;
            }
        }

        void addWait(int whom, int who, int time, int roundsAhead) {
            if (waits >= 0 && waits < WAITS) {
                from[waits] = whom;
                to[waits] = who;
                takes[waits] = time;
                lag[waits] = roundsAhead;
                waits++;
            }
        }

        /** Adds a step to the law that is read and tells its place. */
        int emit(int op, int argument) {
            int place = codeSize;
            if (place >= 0 && place < TAPE) {
                code[place] = argument * Law.OPS + op;
                codeSize++;
            }
            return place;
        }

        /** A jump at a place goes to the step that comes next. */
        void aimHere(int place) {
            if (place >= 0 && place < TAPE) {
                code[place] = codeSize * Law.OPS + code[place] % Law.OPS;
            }
        }

        int stepAt(int place) {
            return place >= 0 && place < TAPE ? code[place] : 0;
        }

        boolean hasWait(int w) {
            return w >= 0 && w < waits && w < WAITS;
        }

        int hourOf(int c) {
            return c >= 0 && c < COACHES ? hour[c] : 0;
        }

        int patienceOf(int c) {
            return c >= 0 && c < COACHES ? patience[c] : 0;
        }

        int fromOf(int w) {
            return w >= 0 && w < WAITS ? from[w] : 0;
        }

        int toOf(int w) {
            return w >= 0 && w < WAITS ? to[w] : 0;
        }

        int takesOf(int w) {
            return w >= 0 && w < WAITS ? takes[w] : 0;
        }

        int lagOf(int w) {
            return w >= 0 && w < WAITS ? lag[w] : 0;
        }

        boolean hasTakesLaw() {
            return takesBegin < takesEnd;
        }

        boolean hasWaitsLaw() {
            return waitsBegin < waitsEnd;
        }
    }

    /** Tells what a law's steps come to: a number, or 1 and 0 for a TRUTH. */
    private static final class Law {
        private static final int OPS = 16;
        private static final int NUMBER = 0;
        private static final int NAME = 1;
        private static final int ADD = 2;
        private static final int SUBTRACT = 3;
        private static final int MULTIPLY = 4;
        private static final int EQUAL = 5;
        private static final int LESS = 6;
        private static final int MORE = 7;
        private static final int AND = 8;
        private static final int OR = 9;
        private static final int NOT = 10;
        private static final int JUMP_UNLESS = 11;
        private static final int JUMP = 12;

        private static final int FROM = 0;
        private static final int TO = 1;
        private static final int MUD = 2;
        private static final int TIME_OR_LATE = 3;
        private static final int PATIENCE = 4;

        private static final int BOUND = 1000000;
        // Seven depths, at each at most five values wait for the next one.
        private static final int STACK = 64;

        private final int[] names = new int[5];
        private final int[] stack = new int[STACK];
        private int top;

        void setNames(Road road, int w, int mud, int timeOrLate) {
            names[FROM] = road.fromOf(w);
            names[TO] = road.toOf(w);
            names[MUD] = mud;
            names[TIME_OR_LATE] = timeOrLate;
            names[PATIENCE] = road.patienceOf(road.toOf(w));
        }

        int tell(Road road, int begin, int end) {
            top = 0;
            int at = begin;
            // Jumps only go on, so no step is done twice.
            for (int done = 0; done < TAPE && at < end; done++) {
                int step = road.stepAt(at);
                int argument = step / OPS;
                at++;
                switch (step % OPS) {
                    case NUMBER:
                        push(argument);
                        break;
                    case NAME:
                        push(argument >= 0 && argument < names.length ? names[argument] : 0);
                        break;
                    case NOT:
                        push(1 - pop());
                        break;
                    case JUMP_UNLESS:
                        at = pop() == 0 ? Math.max(at, argument) : at;
                        break;
                    case JUMP:
                        at = Math.max(at, argument);
                        break;
                    default:
                        int right = pop();
                        push(ofTwo(step % OPS, pop(), right));
                        break;
                }
            }
            return pop();
        }

        private static int ofTwo(int op, int left, int right) {
            switch (op) {
                case EQUAL: return left == right ? 1 : 0;
                case LESS: return left < right ? 1 : 0;
                case MORE: return left > right ? 1 : 0;
                case AND: return left & right;
                case OR: return left | right;
                default: break;
            }
            long reckoned = (long) left * right;
            if (op != MULTIPLY) {
                reckoned = op == ADD ? left + right : left - right;
            }
            // Plain comparisons: calls stand eight deep here already.
            if (reckoned > BOUND) {
                return BOUND;
            }
            return reckoned < -BOUND ? -BOUND : (int) reckoned;
        }

        private void push(int n) {
            if (top >= 0 && top < STACK) {
                stack[top] = n;
                top++;
            }
        }

        private int pop() {
            if (top <= 0 || top > STACK) {
                return 0;
            }
            top--;
            return stack[top];
        }
    }

    /** How all stand behind a ROUND: what a call can bring back by undoing. */
    private static final class Stand {
        private final int[] last = new int[COACHES];
        private final int[] earlier = new int[COACHES];
        private final int[] held = new int[COACHES];
        private int mudNow;
        private int roundsMade;

        void begin(int mud) {
            Arrays.fill(last, 0);
            Arrays.fill(earlier, 0);
            Arrays.fill(held, 0);
            mudNow = mud;
            roundsMade = 0;
        }

        void copy(Stand other) {
            for (int c = 0; c < COACHES; c++) {
                last[c] = other.last[c];
                earlier[c] = other.earlier[c];
                held[c] = other.held[c];
            }
            mudNow = other.mudNow;
            roundsMade = other.roundsMade;
        }

        int lastOf(int c) {
            return c >= 0 && c < COACHES ? last[c] : 0;
        }

        int earlierOf(int c) {
            return c >= 0 && c < COACHES ? earlier[c] : 0;
        }

        int heldOf(int c) {
            return c >= 0 && c < COACHES ? held[c] : 0;
        }

        void holdBy(int c, int n) {
            if (c >= 0 && c < COACHES) {
                held[c] = n;
            }
        }

        int lateCount() {
            return Integer.bitCount(lateBits());
        }

        int lateSum() {
            int sum = 0;
            for (int c = 0; c < COACHES; c++) {
                sum += last[c];
            }
            return sum;
        }

        int lateBits() {
            int bits = 0;
            for (int c = 0; c < COACHES; c++) {
                if (last[c] > 0) {
                    bits |= 1 << c;
                }
            }
            return bits;
        }

        boolean isQuiet() {
            for (int c = 0; c < COACHES; c++) {
                if (last[c] > 0) {
                    return false;
                }
            }
            return true;
        }

        /** Nobody was LATE in the last two ROUNDS, and nobody is HELD. */
        boolean isCalm() {
            for (int c = 0; c < COACHES; c++) {
                if (last[c] > 0 || earlier[c] > 0 || held[c] > 0) {
                    return false;
                }
            }
            return true;
        }

        /** A ROUND is over: whether anything by which the next ones go has changed. */
        boolean passTo(int[] fresh) {
            boolean changed = false;
            for (int c = 0; c < COACHES && c < fresh.length; c++) {
                changed |= last[c] != fresh[c] || earlier[c] != last[c] || held[c] != 0;
                earlier[c] = last[c];
                last[c] = fresh[c];
                held[c] = 0;
            }
            roundsMade++;
            return changed;
        }
    }

    /** ROUNDS on the road. */
    private static final class Going {
        // Lateness comes back again and again; what the law waits says of it is kept here.
        private static final int KNOWN = 64;

        private final Road road;
        private final Law law = new Law();
        private final int[] time = new int[WAITS];
        private final int[] gap = new int[WAITS];
        private final int[] order = new int[WAITS];
        private final int[] fresh = new int[COACHES];
        private final int[] cause = new int[COACHES];
        private final int[] known = new int[WAITS * KNOWN];
        private int mudReckoned = NONE;

        Going(Road road) {
            this.road = road;
        }

        /** There is another road. */
        void forget() {
            mudReckoned = NONE;
            Arrays.fill(known, 0);
            Arrays.fill(fresh, 0);
            int n = 0;
            for (int c = 0; c < road.coaches; c++) {
                for (int w = 0; w < road.waits; w++) {
                    if (road.toOf(w) == c && n < WAITS) {
                        order[n] = w;
                        n++;
                    }
                }
            }
        }

        int timeOf(int w, int mud) {
            reckon(mud);
            return timeReckoned(w);
        }

        int timeReckoned(int w) {
            return w >= 0 && w < WAITS ? time[w] : 0;
        }

        int causeOf(int c) {
            return c >= 0 && c < COACHES ? cause[c] : NONE;
        }

        /** The WAITS for which somebody was LATE in the latest ROUND, as bits. */
        int causeBits() {
            int bits = 0;
            for (int c = 0; c < road.coaches && c < COACHES; c++) {
                if (cause[c] != NONE) {
                    bits |= 1 << cause[c];
                }
            }
            return bits;
        }

        /** TIMES, and how far FROM comes in behind TO's planned time, by a MUD. */
        void reckon(int mud) {
            if (mud == mudReckoned) {
                return;
            }
            mudReckoned = mud;
            for (int w = 0; w < road.waits && w < WAITS; w++) {
                time[w] = road.takesOf(w) + mud;
                if (road.hasTakesLaw()) {
                    law.setNames(road, w, mud, road.takesOf(w));
                    int tells = law.tell(road, road.takesBegin, road.takesEnd);
                    time[w] = Math.max(0, Math.min(999, tells));
                }
                int planned = road.hourOf(road.fromOf(w)) - road.hourOf(road.toOf(w));
                gap[w] = planned + time[w] - road.lagOf(w) * road.period;
            }
        }

        /** n ROUNDS, none left OUT; once one changes nothing, none behind it does. */
        void go(Stand s, int n) {
            for (int i = 1; i <= n; i++) {
                if (!turn(s, NONE)) {
                    s.roundsMade += n - i;
                    return;
                }
            }
        }

        /** One ROUND with a WAIT left OUT (NONE: with none): whether it changed anything. */
        boolean turn(Stand s, int out) {
            reckon(s.mudNow);
            int i = 0;
            for (int c = 0; c < road.coaches && c < COACHES; c++) {
                int most = 0;
                cause[c] = NONE;
                for (; i < road.waits && i < WAITS && road.toOf(order[i]) == c; i++) {
                    int w = order[i];
                    int alone = lateFor(w, s);
                    if (alone > most && w != out && isKept(w, alone, s.mudNow)) {
                        most = alone;
                        cause[c] = w;
                    }
                }
                fresh[c] = Math.min(LATEST, most + s.heldOf(c));
            }
            return s.passTo(fresh);
        }

        /** How LATE a WAIT alone would make its TO, below 1 too. */
        private int lateFor(int w, Stand s) {
            if (w < 0 || w >= WAITS) {
                return 0;
            }
            int whom = road.fromOf(w);
            switch (road.lagOf(w)) {
                case 0: return gap[w] + freshOf(whom);
                case 1: return gap[w] + s.lastOf(whom);
                default: return gap[w] + s.earlierOf(whom);
            }
        }

        private int freshOf(int c) {
            return c >= 0 && c < COACHES ? fresh[c] : 0;
        }

        private boolean isKept(int w, int late, int mud) {
            if (!road.hasWaitsLaw()) {
                return true;
            }
            int place = w * KNOWN + late % KNOWN;
            if (place < 0 || place >= known.length) {
                return false;
            }
            // LATE is 1 at least, so no question is 0, as places not used yet are.
            int question = (late * MUDS + mud) * 2;
            if (known[place] / 2 * 2 != question) {
                law.setNames(road, w, mud, late);
                known[place] = question + law.tell(road, road.waitsBegin, road.waitsEnd);
            }
            return known[place] != question;
        }
    }

    /** RINGS of WAITS, each as bits, and what their PACES tell by the MUD that there is now. */
    private static final class Rings {
        private static final int MOST = 1 << WAITS;

        private final Road road;
        private final Going going;
        private final Stand now;
        private final int[] rings = new int[MOST];
        private final int[] over = new int[MOST];
        private final int[] hours = new int[COACHES];
        private int found;

        Rings(Road road, Going going, Stand now) {
            this.road = road;
            this.going = going;
            this.now = now;
        }

        int size() {
            return found;
        }

        /** Each RING is found once: from the least of its COACHES on. */
        void find() {
            found = 0;
            for (int c = 0; c < road.coaches; c++) {
                follow(c, c, 0, 0);
            }
        }

        /** Goes on from a COACH; each step marks another one, so it is six deep at most. */
        private void follow(int first, int here, int marked, int waits) {
            for (int w = 0; w < road.waits; w++) {
                if (road.fromOf(w) == here) {
                    int there = road.toOf(w);
                    if (there == first) {
                        add(waits | 1 << w);
                    } else if (there > first && (marked >> there & 1) == 0 && Integer.bitCount(waits) < COACHES) {
                        follow(first, there, marked | 1 << there, waits | 1 << w);
                    }
                }
            }
        }

        private void add(int waits) {
            if (found < MOST) {
                rings[found] = waits;
                found++;
            }
        }

        private int ringAt(int ring) {
            return ring >= 0 && ring < found && ring < MOST ? rings[ring] : 0;
        }

        int timesOf(int ring) {
            int waits = ringAt(ring);
            int sum = 0;
            going.reckon(now.mudNow);
            for (int w = 0; w < road.waits; w++) {
                if ((waits >> w & 1) != 0) {
                    sum += going.timeReckoned(w);
                }
            }
            return sum;
        }

        int lagsOf(int ring) {
            int waits = ringAt(ring);
            int sum = 0;
            for (int w = 0; w < road.waits; w++) {
                if ((waits >> w & 1) != 0) {
                    sum += road.lagOf(w);
                }
            }
            return sum;
        }

        /** Whether the PACE of one RING is below that of another; without a RING it is least. */
        private boolean isBelow(int one, int other) {
            if (one == NONE || other == NONE) {
                return other != NONE;
            }
            return timesOf(one) * lagsOf(other) < timesOf(other) * lagsOf(one);
        }

        /** The first of the slowest RINGS that have none of these WAITS. */
        int slowestWithout(int out) {
            int slowest = NONE;
            for (int i = 0; i < found; i++) {
                if ((ringAt(i) & out) == 0 && isBelow(slowest, i)) {
                    slowest = i;
                }
            }
            return slowest;
        }

        int slowCoaches() {
            int slowest = slowestWithout(0);
            int coaches = 0;
            for (int i = 0; i < found; i++) {
                if (!isBelow(i, slowest)) {
                    coaches |= coachesOf(ringAt(i));
                }
            }
            return coaches;
        }

        private int coachesOf(int waits) {
            int coaches = 0;
            for (int w = 0; w < road.waits; w++) {
                if ((waits >> w & 1) != 0) {
                    coaches |= 1 << road.toOf(w);
                }
            }
            return coaches;
        }

        int leastPeriod() {
            int slowest = slowestWithout(0);
            int lags = lagsOf(slowest);
            return lags < 1 ? 1 : Math.max(1, (timesOf(slowest) + lags - 1) / lags);
        }

        /** The least HOUR of a COACH with which all are in time by a PERIOD. */
        int keepingHour(int c, int p) {
            Arrays.fill(hours, 0);
            // Without a RING above p no chain of WAITS that delays has as many as there are COACHES.
            for (int i = 0; i <= COACHES; i++) {
                if (!putOff(p)) {
                    return c >= 0 && c < COACHES ? hours[c] : NONE;
                }
            }
            return NONE;
        }

        private boolean putOff(int p) {
            boolean changed = false;
            for (int w = 0; w < road.waits; w++) {
                int whom = road.fromOf(w);
                int who = road.toOf(w);
                if (whom >= 0 && whom < COACHES && who >= 0 && who < COACHES) {
                    int comes = hours[whom] + going.timeOf(w, now.mudNow) - road.lagOf(w) * p;
                    changed |= comes > hours[who];
                    hours[who] = Math.max(hours[who], comes);
                }
            }
            return changed;
        }

        boolean isInRing(int w) {
            for (int i = 0; i < found; i++) {
                if ((ringAt(i) >> w & 1) != 0) {
                    return true;
                }
            }
            return false;
        }

        int spaceOf(int w) {
            int space = Integer.MAX_VALUE;
            for (int i = 0; i < found; i++) {
                if ((ringAt(i) >> w & 1) != 0) {
                    space = Math.min(space, road.period * lagsOf(i) - timesOf(i));
                }
            }
            return space;
        }

        int bestOut() {
            int best = NONE;
            int least = NONE;
            for (int w = 0; w < road.waits; w++) {
                int slowest = slowestWithout(1 << w);
                if (best == NONE || isBelow(slowest, least)) {
                    best = w;
                    least = slowest;
                }
            }
            return best;
        }

        /** The fewest WAITS, as bits, without which no RING is slower than a PERIOD. */
        int fewestOut(int p) {
            int slower = 0;
            for (int i = 0; i < found && slower < MOST; i++) {
                if (timesOf(i) > p * lagsOf(i)) {
                    over[slower] = ringAt(i);
                    slower++;
                }
            }
            int best = (1 << road.waits) - 1;
            for (int out = 0; out < 1 << road.waits; out++) {
                if (Integer.bitCount(out) < Integer.bitCount(best) && breaksAll(out, slower)) {
                    best = out;
                }
            }
            return best;
        }

        private boolean breaksAll(int out, int slower) {
            for (int i = 0; i < slower && i < MOST; i++) {
                if ((over[i] & out) == 0) {
                    return false;
                }
            }
            return true;
        }
    }

    /** All ROWS of some ROUNDS, and all draws of lots, a Stand for each depth. */
    private static final class Branches {
        private static final int DEEPEST = 5;

        private final Road road;
        private final Going going;
        private final Stand[] levels = new Stand[DEEPEST + 1];
        private final int[] deeds = new int[DEEPEST];

        Branches(Road road, Going going) {
            this.road = road;
            this.going = going;
            for (int i = 0; i <= DEEPEST; i++) {
                levels[i] = new Stand();
            }
        }

        int deedAt(int i) {
            return i >= 0 && i < DEEPEST ? deeds[i] : NONE;
        }

        int fewest(Stand now) {
            levels[0].copy(now);
            for (int n = 0; n <= DEEPEST; n++) {
                if (isReached(0, n)) {
                    return n;
                }
            }
            return NONE;
        }

        int rowsInTime(Stand now, int n, int c) {
            levels[0].copy(now);
            return rowsFrom(0, n, c);
        }

        /** Over all draws: in how many nobody is LATE (c NONE), or how LATE a COACH is. */
        long lotsDrawn(Stand now, int k, int n, int c) {
            levels[0].copy(now);
            return lotsFrom(0, k, n, c);
        }

        /** The next depth is as this one behind a ROUND: the WAITS that made somebody LATE. */
        private int stepOn(int level, int out) {
            if (level < 0 || level >= DEEPEST) {
                return 0;
            }
            levels[level + 1].copy(levels[level]);
            going.turn(levels[level + 1], out);
            return going.causeBits();
        }

        /** To leave OUT a WAIT that makes nobody LATE is like leaving out none: only others are tried. */
        private boolean isReached(int level, int left) {
            if (left <= 0 || level < 0 || level >= DEEPEST) {
                return level >= 0 && level <= DEEPEST && levels[level].isCalm();
            }
            if (left == 1 && !levels[level].isQuiet()) {
                return false;
            }
            int causes = stepOn(level, NONE);
            deeds[level] = 0;
            if (isReached(level + 1, left - 1)) {
                return true;
            }
            for (int w = 0; w < road.waits; w++) {
                if ((causes >> w & 1) != 0) {
                    stepOn(level, w);
                    deeds[level] = w + 1;
                    if (isReached(level + 1, left - 1)) {
                        return true;
                    }
                }
            }
            return false;
        }

        private int rowsFrom(int level, int left, int c) {
            if (left <= 0 || level < 0 || level >= DEEPEST) {
                return level >= 0 && level <= DEEPEST && levels[level].lastOf(c) == 0 ? 1 : 0;
            }
            int causes = stepOn(level, NONE);
            int alike = 1 + road.waits - Integer.bitCount(causes);
            int sum = alike * rowsFrom(level + 1, left - 1, c);
            for (int w = 0; w < road.waits; w++) {
                if ((causes >> w & 1) != 0) {
                    stepOn(level, w);
                    sum += rowsFrom(level + 1, left - 1, c);
                }
            }
            return sum;
        }

        private long lotsFrom(int level, int left, int n, int c) {
            if (level < 0 || level > DEEPEST) {
                return 0;
            }
            if (left <= 0 || level >= DEEPEST) {
                int nobody = levels[level].isQuiet() ? 1 : 0;
                return c == NONE ? nobody : levels[level].lastOf(c);
            }
            // HELD by 0 more is not HELD more: all ten lots are alike then.
            int slipping = n == 0 ? 0 : road.coaches;
            stepOn(level, NONE);
            long sum = (LOTS - slipping) * lotsFrom(level + 1, left - 1, n, c);
            for (int v = 0; v < slipping; v++) {
                int was = levels[level].heldOf(v);
                levels[level].holdBy(v, was + n);
                stepOn(level, NONE);
                levels[level].holdBy(v, was);
                sum += lotsFrom(level + 1, left - 1, n, c);
            }
            return sum;
        }
    }

    /** What the latest calls can be undone to. */
    private static final class Past {
        private final Stand[] stands = new Stand[UNDOABLE];
        private int eldest;
        private int kept;

        Past() {
            for (int i = 0; i < UNDOABLE; i++) {
                stands[i] = new Stand();
            }
        }

        int size() {
            return kept;
        }

        void forget() {
            kept = 0;
        }

        void push(Stand s) {
            stands[Math.floorMod(eldest + kept, UNDOABLE)].copy(s);
            if (kept < UNDOABLE) {
                kept++;
            } else {
                eldest = (eldest + 1) % UNDOABLE;
            }
        }

        void back(int n, Stand s) {
            if (n >= 1 && n <= kept) {
                kept -= n;
                s.copy(stands[Math.floorMod(eldest + kept, UNDOABLE)]);
            }
        }
    }

    /** Numbers of one sort; MISSING at first. */
    private static final class Tray {
        private final long[] numbers = new long[PLACES];
        private int sort;
        private int places = NONE;

        boolean isMissing() {
            return places == NONE;
        }

        int size() {
            return places;
        }

        void renew(int newSort, int n) {
            Arrays.fill(numbers, 0L);
            sort = newSort;
            places = n;
        }

        long at(int i) {
            return i >= 0 && i < PLACES ? numbers[i] : 0;
        }

        void put(int i, long v) {
            if (i >= 0 && i < PLACES) {
                numbers[i] = cut(v);
            }
        }

        private long cut(long v) {
            switch (sort) {
                case 0: return (byte) v;
                case 1: return (short) v;
                case 2: return (int) v;
                default: return v;
            }
        }
    }
}
