/** For each promise of the document: ordinary calls, the edges that it names, and wrong ones, reckoned by hand. */
public final class PromiseTest {

    private static int wrong;
    private static int asked;

    private static void due(String what, long got, long want) {
        asked++;
        if (got != want) {
            wrong++;
            System.out.println(what + " answered " + got + ", due is " + want);
        }
    }

    private static int tell(CoachWaits x, String text) {
        for (int i = 0; i < text.length(); i += 20) {
            int[] v = new int[5];
            for (int j = 0; j < 20; j++) {
                v[j / 4] = v[j / 4] << 8 | (i + j < text.length() ? text.charAt(i + j) & 255 : 32);
            }
            x.feed(v[0], v[1], v[2], v[3], v[4]);
        }
        return x.road(text.length());
    }

    private static CoachWaits on(String text) {
        CoachWaits x = new CoachWaits();
        if (tell(x, text) < 1) {
            due("road of " + text, x.fault(1), -1);
        }
        return x;
    }

    private static void put(CoachWaits x, int tray, int sort, long... all) {
        x.numbers(tray, sort, all.length);
        for (int i = 0; i < all.length; i++) {
            x.write(tray, i, all[i]);
        }
    }

    private static void faulty(String text, int kind, int place) {
        CoachWaits x = new CoachWaits();
        due("road of '" + text + "'", tell(x, text), -30 - kind);
        due("fault(0) of '" + text + "'", x.fault(0), kind);
        due("fault(1) of '" + text + "'", x.fault(1), place);
    }

    private static final String R = "road period 1 mud 1;";
    private static final String C = "coach at 0 patience 0;";
    /** Behind 0 by 4, and 0 behind 1 by 3 of the round ahead: a period of 10 has room. */
    private static final String PAIR =
        "road period 10 mud 0;coach at 0 patience 5;coach at 4 patience 2;wait 0 1 takes 4 lag 0;wait 1 0 takes 3 lag 1;";
    /** Late by 3 more in each round. */
    private static final String GROWS = "road period 10 mud 0;coach at 0 patience 0;wait 0 0 takes 13 lag 1;";
    private static final String RINGS = "road period 5 mud 0;" + C + C + C
        + "wait 0 0 takes 4 lag 1;wait 0 1 takes 0 lag 0;wait 1 0 takes 9 lag 2;wait 1 2 takes 7 lag 0;wait 0 1 takes 1 lag 0;";

    public static void main(String[] args) {
        newObject();
        tape();
        roads();
        faults();
        laws();
        reads();
        rounds();
        holds();
        undoes();
        deeds();
        weeks();
        going();
        rings();
        keeping();
        spreads();
        inTime();
        seen();
        chances();
        trays();
        images();
        counts();
        System.out.println(asked + " asked, " + wrong + " wrong");
        if (wrong != 0) {
            System.exit(1);
        }
    }

    // 1
    private static void newObject() {
        CoachWaits x = new CoachWaits();
        long[] first = {0, 0, 1, 0, 0, 0, 0, 0, 0, 0};
        for (int i = 0; i < 10; i++) {
            due("1 count(" + i + ")", x.count(i), first[i]);
        }
        due("1 coach", x.coach(0, 0), -2);
        due("1 fault(0)", x.fault(0), 0);
        due("1 fault(1)", x.fault(1), -1);
        due("1 round", x.round(0), 0);
        due("1 week", x.week(7, 40) > 0 ? 1 : 0, 1);
    }

    // 2
    private static void tape() {
        CoachWaits x = new CoachWaits();
        for (int i = 1; i <= 45; i++) {
            due("2 feed", x.feed(0, 0, 0, 0, 0), 20 * i);
        }
        due("2 feed too much", x.feed(0, 0, 0, 0, 0), -5);
        due("2 tape stays", x.count(8), 900);
        due("2 the highest first", on("road period 12 mud 3;").count(2), 12);
        due("2 bytes above 127 are no token", tell(new CoachWaits(), "\u00ff"), -31);
    }

    // 3
    private static void roads() {
        CoachWaits x = on(PAIR);
        x.hold(1, 4);
        x.rounds(2);
        x.feed(0, 0, 0, 0, 0);
        due("3 below 0", x.road(-1), -3);
        due("3 above", x.road(21), -3);
        due("3 the tape stays", x.count(8), 20);
        due("3 a fault", x.road(20), -31);
        due("3 the tape is empty behind a fault", x.count(8), 0);
        due("3 all stays: rounds", x.count(4), 2);
        due("3 all stays: undoable", x.count(7), 2);
        due("3 all stays: lines", x.count(9), 5);
        x.hold(0, 3);
        due("3 lines", tell(x, PAIR + "takes:time;waits:1=1;takes:9;"), 8);
        due("3 rounds are 0", x.count(4), 0);
        due("3 nothing can be undone", x.count(7), 0);
        due("3 nobody is held", x.coach(0, 4), 0);
        due("3 nobody was late", x.coach(1, 3), 0);
        due("3 no bytes", new CoachWaits().road(0), -32);
        due("3 the least road", tell(x, "road period 1 mud 0;"), 1);
        due("3 blanks", tell(x, " \nroad period 099 mud 009 ; coach\nat 7 patience 8;"), 2);
        due("3 period", x.count(2), 99);
        due("3 the road's first mud", x.count(3), 9);
        due("3 no blanks", tell(x, "road period9mud8;coach at0patience0;wait 0 0takes1lag1;"), 3);
        x.feed(1919902052, 544236914, 1768907808, 824208757, 1679831355);
        x.feed(-1, -1, -1, -1, -1);
        due("3 only the first bytes", x.road(20), 1);
        due("3 the rest of the tape goes too", x.count(8), 0);
        StringBuilder law = new StringBuilder("1");
        for (int i = 0; i < 300; i++) {
            law.append("+1");
        }
        for (int i = 0; i < 8; i++) {
            due("3 long laws, again and again", tell(x, R + C + "wait 0 0 takes 1 lag 1;takes:" + law + ";"), 4);
            due("3 long laws, again and again", x.waiting(0, 3), 301);
        }
    }

    // 3, 4
    private static void faults() {
        faulty("", 2, 0);
        faulty("  ", 2, 2);
        faulty("Road", 1, 0);
        faulty("roads", 2, 0);
        faulty("z", 2, 0);
        faulty("a", 2, 0);
        faulty("{", 1, 0);
        faulty("`", 1, 0);
        faulty("/", 1, 0);
        faulty("9", 2, 0);
        faulty("0000", 1, 0);
        faulty("road\tperiod", 1, 4);
        faulty("road period 1000 mud", 1, 12);
        faulty("road period 100 mud", 3, 12);
        faulty("road period 0 mud 10", 3, 12);
        faulty("road period x mud 10", 2, 12);
        faulty("road period 1 mud 10", 3, 18);
        faulty("road period 1 mud 1", 2, 19);
        faulty("road period 1 mud 1  ", 2, 21);
        faulty(R + "road", 2, 20);
        faulty(R + ";", 2, 20);
        faulty(R + "coach at 0 patience 0", 2, 41);
        faulty(R + C + C + C + C + C + C + "coach 1000", 4, 152);
        faulty(R + "wait 0 0", 3, 25);
        faulty(R + C + "wait 0 1", 3, 49);
        faulty(R + C + C + "wait 1 0 takes 5 lag 0;", 3, 85);
        faulty(R + C + C + "wait 0 1 takes 5 lag 3;", 3, 85);
        faulty(R + C + C + "wait 0 1 takes 5 lag 1000;", 1, 85);
        String w = "wait 0 0 takes 1 lag 1;";
        faulty(R + C + w + w + w + w + w + w + w + w + w + w + "wait", 4, 42 + 230);
        faulty(R + "takes: time", 2, 31);
        faulty(R + "takes:late;", 2, 26);
        faulty(R + "takes:patience;", 2, 26);
        faulty(R + "waits:time=1;", 2, 26);
        faulty(R + "takes:1=1;", 2, 27);
        faulty(R + "waits:1;", 2, 27);
        faulty(R + "waits:1=1=1;", 2, 29);
        faulty(R + "waits:(1=1);", 2, 28);
        faulty(R + "waits:[1+1];", 2, 30);
        faulty(R + "waits:1<[1];", 2, 28);
        faulty(R + "waits:not;", 2, 29);
        faulty(R + "takes:not 1;", 2, 26);
        faulty(R + "takes:-1;", 2, 26);
        faulty(R + "takes:1+;", 2, 28);
        faulty(R + "takes:(1;", 2, 28);
        faulty(R + "takes:1 1;", 2, 28);
        faulty(R + "takes:if 1=1 then 1 end;", 2, 40);
        faulty(R + "takes:if 1=1 then 1 else 1;", 2, 46);
        faulty(R + "takes:if 1 then 1 else 1 end;", 2, 31);
        faulty(R + "takes:1/1;", 1, 27);
        faulty(R + "takes:((((((1))))))+(((((((1", 4, 26 + 13 + 1 + 6);
        faulty(R + "waits:not not not not not not not 1=1;", 4, 26 + 24);
        faulty(R + "waits:[[[[[[[", 4, 32);
        faulty(R + "waits:not[not(not 1", 2, 34);
        faulty(R + "waits:not[not[if 1=1 then((1", 4, 46);
        due("4 six deep", tell(new CoachWaits(), R + "waits:not[not[if 1=1 then(1)else(1)end=1]];"), 2);
        due("4 six deep, side by side", tell(new CoachWaits(), R + "takes:((((((1))))))+((((((1))))));"), 2);
        CoachWaits x = new CoachWaits();
        tell(x, "road period");
        due("4 others", x.fault(2), -1);
        due("4 others", x.fault(-1), -1);
        tell(x, R);
        due("4 behind a sound road", x.fault(0), 0);
        due("4 behind a sound road", x.fault(1), -1);
        tell(x, "x");
        due("4 a road that was not read", x.road(5), -3);
        due("4 is not the latest", x.fault(0), 2);
    }

    private static int timeBy(String law) {
        return on("road period 9 mud 3;" + C + C + "coach at 0 patience 7;wait 1 2 takes 50 lag 0;takes:" + law + ";").waiting(0, 3);
    }

    // The laws: promises 6, 7
    private static void laws() {
        due("time", timeBy("time"), 50);
        due("mud", timeBy("mud"), 3);
        due("from", timeBy("from"), 1);
        due("to", timeBy("to"), 2);
        due("no less than 0", timeBy("1-2"), 0);
        due("no more than 999", timeBy("999+1"), 999);
        due("a product first", timeBy("1+2*3"), 7);
        due("from the left", timeBy("9-3-2"), 4);
        due("round signs", timeBy("9-(3-2)"), 8);
        due("kept to a million", timeBy("999*999*9-999*999-999-996"), 4);
        due("cut at each sign", timeBy("999*999+999*9+0-999*999-999-996"), 4);
        due("a million and no more", timeBy("999*999*999*999-999*999-999-999"), 1);
        due("cut below", timeBy("(0-999)*999*9+999*999+999+999"), 0);
        due("cut below", timeBy("(0-999)*999*9+999*999+999+999+2"), 1);
        due("if", timeBy("if mud=3 then 1 else 2 end"), 1);
        due("else", timeBy("if mud>3 then 1 else 2 end"), 2);
        due("if within", timeBy("if mud<3 then 1 else if 1=1 then 5 else 6 end end+1"), 6);
        due("and ahead of or", timeBy("if 1=1 or 1=1 and 1=2 then 1 else 2 end"), 1);
        due("signs round a truth", timeBy("if [1=1 or 1=1] and 1=2 then 1 else 2 end"), 2);
        due("not", timeBy("if not 1=2 and 1=1 then 1 else 2 end"), 1);
        due("not takes one alone", timeBy("if not 1=1 or 1=1 then 1 else 2 end"), 1);
        due("not not", timeBy("if not not 1=1 then 1 else 2 end"), 1);
        CoachWaits x = on(PAIR + "takes:9;takes:time*2;");
        due("a later takes strikes", x.waiting(0, 3), 8);
        x = on("road period 9 mud 3;" + C + "coach at 0 patience 7;wait 0 1 takes 4 lag 0;waits:late<patience;waits:late=patience;");
        due("a later waits strikes", x.by(0, 1), 7);
        x.hold(0, 1);
        due("late is another one now", x.by(0, 1), 0);
        x = on("road period 9 mud 3;" + C + C + "wait 0 1 takes 4 lag 0;waits:from=0 and to=1 and mud=3;");
        due("names in waits", x.by(0, 1), 7);
        x.mud(4);
        due("the mud in waits", x.by(0, 1), 0);
    }

    // 5, 6, 7, 8
    private static void reads() {
        CoachWaits x = on(PAIR);
        due("5 hour", x.coach(1, 0), 4);
        due("5 patience", x.coach(0, 1), 5);
        due("5 no coach", x.coach(2, 0), -2);
        due("5 no coach", x.coach(-1, 0), -2);
        due("5 what", x.coach(0, 5), -2);
        due("5 what", x.coach(0, -1), -2);
        x.hold(0, 7);
        due("5 held", x.coach(0, 4), 7);
        x.round(0);
        due("5 late", x.coach(0, 2), 7);
        due("5 late", x.coach(1, 2), 7);
        due("5 held no more", x.coach(0, 4), 0);
        x.round(0);
        due("5 late", x.coach(0, 2), 4);
        due("5 late ahead of that", x.coach(1, 3), 7);
        due("6 from", x.waiting(1, 0), 1);
        due("6 to", x.waiting(1, 1), 0);
        due("6 lag", x.waiting(1, 2), 1);
        due("6 time", x.waiting(1, 3), 3);
        x.mud(9);
        due("6 time and the mud", x.waiting(1, 3), 12);
        due("6 no wait", x.waiting(2, 0), -2);
        due("6 no wait", x.waiting(-1, 0), -2);
        due("6 what", x.waiting(0, 4), -2);
        due("6 what", x.waiting(0, -1), -2);
        x.undo(4);
        x.hold(0, 3);
        x.hold(1, 2);
        due("7 held", x.by(0, 0), 3);
        due("7 behind one who is held, and held", x.by(0, 1), 5);
        due("7 left out", x.by(1, 1), 2);
        due("7 changes nothing", x.count(4), 0);
        due("7 held stays", x.coach(0, 4), 3);
        due("7 no coach", x.by(99, 2), -2);
        due("7 no round", x.by(3, 0), -5);
        due("7 no round", x.by(-1, 0), -5);
        due("7 no round", x.by(20, 0), -5);
        due("8 for none", x.forWhich(0, 0), -1);
        due("8", x.forWhich(0, 1), 0);
        due("8 left out", x.forWhich(1, 1), -1);
        due("8 no coach", x.forWhich(99, 2), -2);
        due("8 no round", x.forWhich(3, 0), -5);
        x = on("road period 9 mud 0;" + C + C + "wait 0 1 takes 2 lag 0;wait 0 1 takes 3 lag 0;wait 0 1 takes 3 lag 0;wait 0 1 takes 5 lag 0;waits:late<5;");
        due("8 the first of like ones that are kept", x.forWhich(0, 1), 1);
        due("8 the next one", x.forWhich(2, 1), 2);
        x = on("road period 9 mud 0;" + C + C + "wait 0 1 takes 0 lag 0;");
        due("8 a wait that makes nobody late", x.forWhich(0, 1), -1);
    }

    // 9, 10
    private static void rounds() {
        CoachWaits x = on(PAIR);
        x.hold(0, 9);
        due("9", x.round(0), 2);
        due("9 left out", x.round(2), 0);
        due("9 counted", x.count(4), 2);
        due("9 no wait", x.round(3), -11);
        due("9 no round", x.round(-1), -11);
        due("9 no round", x.round(11), -11);
        due("9 a mud is none", x.round(20), -11);
        due("9 refused: nothing changes", x.count(4), 2);
        x = on(PAIR);
        x.hold(0, 9);
        due("10", x.rounds(3), 2);
        due("10 late in the third", x.coach(0, 2), 3);
        due("10 counted", x.count(4), 3);
        due("10 one call", x.count(7), 2);
        due("10", x.rounds(99), 0);
        due("10", x.count(4), 102);
        due("10 none", x.rounds(0), -3);
        due("10 too many", x.rounds(100), -3);
        x = on("road period 1 mud 0;" + C + "coach at 0 patience 99;wait 0 0 takes 99 lag 1;wait 0 1 takes 50 lag 0;"
            + "takes:if to=0 then 999+1 else time end;");
        x.rounds(99);
        due("10 late by 998 more each", x.coach(0, 2), 99 * 998);
        x.rounds(2);
        due("10 cut", x.coach(0, 2), 100000);
        due("10 each is cut", x.coach(1, 2), 100000);
        x.hold(0, 9);
        due("10 held is cut too", x.by(0, 0), 100000);
        x = on("road period 1 mud 0;" + C + C + "wait 0 0 takes 99 lag 1;wait 0 1 takes 50 lag 0;"
            + "takes:if to=0 then 999 else time end;waits:not late=999*100+150;");
        x.rounds(99);
        x.rounds(99);
        due("10 late is told uncut", x.by(0, 1), 0);
        x = on("road period 5 mud 0;" + C + "wait 0 0 takes 12 lag 2;");
        x.hold(0, 4);
        x.round(0);
        due("10 two rounds ahead: as planned", x.coach(0, 2), 6);
        x.round(0);
        due("10 two rounds ahead: as planned", x.coach(0, 2), 2);
        x.round(0);
        due("10 two rounds ahead", x.coach(0, 2), 8);
    }

    // 11, 12
    private static void holds() {
        CoachWaits x = on(PAIR);
        due("11", x.hold(0, 9), 0);
        due("11 what it was", x.hold(0, 2), 9);
        due("11 a later one strikes", x.by(0, 0), 2);
        due("11 not at all", x.hold(0, 0), 2);
        due("11 not at all", x.by(0, 0), 0);
        due("11 no coach", x.hold(2, 1), -11);
        due("11 no coach", x.hold(-1, 1), -11);
        due("11 too much", x.hold(0, 10), -11);
        due("11 below 0", x.hold(0, -1), -11);
        due("11 undoable", x.count(7), 3);
        due("12", x.mud(9), 0);
        due("12 what it was", x.mud(0), 9);
        due("12 above", x.mud(10), -11);
        due("12 below", x.mud(-1), -11);
        due("12 stays", x.count(3), 0);
        due("12 undoable", x.count(7), 5);
    }

    // 13
    private static void undoes() {
        CoachWaits x = on(PAIR);
        x.hold(0, 9);
        x.hold(1, 3);
        x.rounds(2);
        x.mud(4);
        x.round(0);
        due("13 none", x.undo(0), -3);
        due("13 more than there are", x.undo(6), -3);
        due("13 below 0", x.undo(-1), -3);
        due("13", x.undo(2), 3);
        due("13 the mud", x.count(3), 0);
        due("13 rounds", x.count(4), 2);
        due("13 late", x.coach(0, 2), 9 + 3 - 3);
        due("13", x.undo(1), 2);
        due("13 held", x.coach(1, 4), 3);
        due("13 rounds", x.count(4), 0);
        due("13 late", x.coach(0, 2), 0);
        due("13", x.undo(2), 0);
        due("13 held", x.coach(0, 4), 0);
        due("13 no more", x.undo(1), -3);
        for (int i = 0; i < 13; i++) {
            x.round(0);
        }
        due("13 ten at most", x.count(7), 10);
        due("13 eleven", x.undo(11), -3);
        due("13 ten", x.undo(10), 0);
        due("13 the eldest are forgotten", x.count(4), 3);
        x.round(0);
        due("13 refused calls can't be undone", x.round(9), -11);
        due("13 refused calls can't be undone", x.count(7), 1);
    }

    // 14, 15
    private static void deeds() {
        CoachWaits x = on(PAIR);
        due("14 missing", x.judge(0, 0), -6);
        due("14 no tray", x.judge(4, 0), -2);
        due("14 no tray", x.judge(-1, 0), -2);
        due("14 what ahead of missing", x.judge(0, 4), -2);
        due("15 missing", x.perform(0), -6);
        due("15 no tray", x.perform(4), -2);
        due("15 no tray", x.perform(-1), -2);
        put(x, 0, 1, 109, 0, 25, 1, 113);
        due("14 all can be", x.judge(0, 0), -1);
        due("14 why", x.judge(0, 1), 0);
        // 0 is late by 9 - 10 + 3 + 4 + 5 in the second round, its mud 5
        due("14 together", x.judge(0, 2), 11);
        due("14 who", x.judge(0, 3), 1);
        due("14 nothing is done", x.count(4), 0);
        due("15", x.perform(0), 5);
        due("15 late", x.count(5), 11);
        due("15 held", x.coach(1, 4), 3);
        due("15 mud", x.count(3), 5);
        due("15 one call", x.count(7), 1);
        due("15 undone as a whole", x.undo(1), 0);
        due("15 undone as a whole", x.count(4) + x.count(3), 0);
        put(x, 1, 1, 107, 0, 3, 0);
        due("14 the first that can't be", x.judge(1, 0), 2);
        due("14 why", x.judge(1, 1), 1);
        due("14 as far as it can be", x.judge(1, 2), 14);
        due("14 as far as it can be", x.judge(1, 3), 3);
        due("15 till one can't be", x.perform(1), 2);
        due("15 till one can't be", x.count(4), 1);
        long[] none = {-1, 3, 11, 19, 30, 99, 120, 199, 200, 1L << 32, Long.MIN_VALUE};
        for (long v : none) {
            put(x, 2, 3, v);
            due("14 can't be: " + v, x.judge(2, 0), 0);
            due("15 can't be: " + v, x.perform(2), 0);
        }
        due("15 what did nothing can't be undone", x.count(7), 1);
        long[] some = {0, 1, 2, 20, 29, 100, 119};
        for (long v : some) {
            put(x, 2, 3, v);
            due("14 can be: " + v, x.judge(2, 0), -1);
        }
        put(x, 3, 0);
        due("14 of no numbers", x.judge(3, 0), -1);
        due("14 as it is now", x.judge(3, 2), 14);
        due("15 of no numbers", x.perform(3), 0);
        due("15 of no numbers", x.count(7), 1);
    }

    // 16
    private static void weeks() {
        CoachWaits x = on(PAIR);
        due("16 none", x.week(1, 0), -3);
        due("16 too many", x.week(1, 41), -3);
        // Seed 4: coach 0 is held by 9, coach 1 by 6, mud 1, a round
        due("16", x.week(4, 4), 4);
        due("16 the mud", x.count(3), 1);
        due("16 rounds", x.count(4), 1);
        due("16 late", x.coach(0, 2), 9);
        due("16 late", x.coach(1, 2), 9 + 1 + 6);
        due("16 one call", x.count(7), 1);
        due("16 undone", x.undo(1), 0);
        due("16 undone", x.count(3), 0);
        // Seed 2: mud 7, coach 4 is held by 5, coach 0 is held by 5, a round
        due("16 one can't be", x.week(2, 4), 3);
        due("16 the ones behind it can", x.count(4), 1);
        x.undo(1);
        int could = 0;
        int at = 77;
        CoachWaits y = on(PAIR);
        for (int i = 0; i < 40; i++) {
            at = 1103515245 * at + 12345;
            int sort = (at >>> 16) % 6;
            int first = 0;
            if (sort > 2) {
                at = 1103515245 * at + 12345;
                first = at >>> 16;
            }
            int answer;
            if (sort < 4) {
                answer = y.round(sort < 3 ? 0 : first % 11);
            } else if (sort == 4) {
                answer = y.mud(first % 10);
            } else {
                at = 1103515245 * at + 12345;
                answer = y.hold(first % 6, (at >>> 16) % 10);
            }
            could += answer >= 0 ? 1 : 0;
        }
        due("16 those that can't be are passed over", x.week(77, 40), could);
        due("16 not all could", could < 40 ? 1 : 0, 1);
        for (int i = 2; i < 7; i++) {
            due("16 as one by one " + i, x.count(i), y.count(i));
        }
    }

    // 17, 18, 19
    private static void going() {
        CoachWaits x = on(PAIR);
        x.hold(0, 9);
        due("17", x.late(0, 1), 9);
        due("17", x.late(0, 2), 6);
        due("17", x.late(1, 3), 3);
        due("17", x.late(1, 4), 0);
        due("17", x.late(0, 999), 0);
        due("17 no coach", x.late(2, 0), -2);
        due("17 none", x.late(0, 0), -3);
        due("17 too many", x.late(0, 1000), -3);
        due("17 nothing is done", x.count(4), 0);
        due("18", x.sets(1, 2), 2 * 10 + 4 + 6);
        x.round(0);
        due("18 those that were, counted", x.sets(1, 1), 2 * 10 + 4 + 6);
        due("18", x.sets(0, 999), 1000 * 10);
        due("18 no coach", x.sets(-1, 1), -2);
        due("18 none", x.sets(0, 0), -3);
        due("18 too many", x.sets(0, 1000), -3);
        due("19 late in two more", x.calm(), 4);
        x.rounds(3);
        due("19 the last one counts", x.calm(), 1);
        x.round(0);
        due("19 now", x.calm(), 0);
        x.hold(1, 1);
        due("19 held", x.calm(), 3);
        x.hold(1, 0);
        due("19 held by 0 is not held", x.calm(), 0);
        x = on(GROWS);
        due("17 grows", x.late(0, 999), 2997);
        due("19 as planned till now", x.calm(), 0);
        x.round(0);
        due("19 never", x.calm(), -1);
        x = on("road period 99 mud 0;" + C + "wait 0 0 takes 98 lag 1;");
        x.hold(0, 9);
        due("19 one less each", x.calm(), 11);
        x = on("road period 1 mud 0;" + C + "wait 0 0 takes 1 lag 1;");
        x.hold(0, 1);
        due("19 the same for ever", x.calm(), -1);
        // 8 more each round with mud 9, 1 less with mud 0
        x = on("road period 5 mud 9;" + C + "wait 0 0 takes 4 lag 1;");
        x.rounds(99);
        x.rounds(24);
        x.hold(0, 6);
        x.round(0);
        due("19 long", x.coach(0, 2), 998);
        x.mud(0);
        due("19 behind 999", x.calm(), 999);
        x.undo(3);
        x.hold(0, 7);
        x.round(0);
        x.mud(0);
        due("19 not behind 999", x.calm(), -1);
    }

    // 20, 21, 22, 23, 25, 26
    private static void rings() {
        CoachWaits x = on(RINGS);
        due("20 9 by 2, or 10 by 2", x.slowest(0), 5);
        due("20", x.slowest(1), 1);
        due("20 what", x.slowest(2), -2);
        due("20 what", x.slowest(-1), -2);
        due("21", x.slow(), 3);
        due("22", x.rings(), 3);
        due("23", x.period(), 5);
        due("25", x.room(0), 1);
        due("25 the least of its rings", x.room(2), 0);
        due("25", x.room(1), 1);
        due("25 in no ring", x.room(3), -1);
        due("25 none", x.room(5), -2);
        due("25 none", x.room(-1), -2);
        due("26 the first by which the slowest is least", x.leave(), 2);
        x.mud(1);
        // 5 by 1, 11 by 2, 12 by 2
        due("20 by the mud", x.slowest(0), 6);
        due("23 by the mud", x.period(), 6);
        due("25 by the mud", x.room(2), -1000002);
        due("25 by the mud", x.room(0), 0);
        x = on("road period 5 mud 0;" + C + C + "wait 0 1 takes 4 lag 0;wait 1 0 takes 5 lag 2;wait 1 1 takes 4 lag 1;");
        due("21 of 9 by 2 and 4 by 1", x.slow(), 3);
        due("26 of 9 by 2 and 4 by 1", x.leave(), 0);
        due("27 of 9 by 2 and 4 by 1", x.leaves(4, 1), 1);
        x.mud(3);
        due("23 of 15 by 2 and 7 by 1", x.period(), 8);
        due("27 of 15 by 2 and 7 by 1", x.leaves(7, 1), 1);
        x = on("road period 5 mud 0;" + C + C + "wait 0 0 takes 5 lag 1;wait 1 1 takes 4 lag 1;takes:time+to*mud;");
        x.mud(2);
        due("26 by the mud and a law", x.leave(), 1);
        x.mud(1);
        due("21 by the mud and a law", x.slow(), 3);
        x.mud(0);
        due("25 by the mud and a law", x.room(1), 1);
        x.mud(3);
        due("27 by the mud and a law", x.leaves(5, 1), 2);
        x.mud(0);
        due("26 by the mud and a law", x.leave(), 0);
        x = on("road period 5 mud 0;" + C + C + "wait 0 1 takes 4 lag 0;wait 1 0 takes 5 lag 2;");
        due("20 above", x.slowest(0), 9);
        due("20 below", x.slowest(1), 2);
        due("23 whole, above it", x.period(), 5);
        due("26 of like ones the first", x.leave(), 0);
        x = on("road period 5 mud 0;" + C + C + "wait 0 1 takes 4 lag 0;");
        due("20 none", x.slowest(0), -1);
        due("20 none", x.slowest(1), -1);
        due("21 none", x.slow(), 0);
        due("22 none", x.rings(), 0);
        due("23 none", x.period(), 1);
        due("26 none", x.leave(), 0);
        due("26 no waits", on(R).leave(), -1);
        x = on("road period 5 mud 0;" + C + "wait 0 0 takes 0 lag 2;");
        due("20 of no time", x.slowest(0), 0);
        due("20 of no time", x.slowest(1), 1);
        due("21 of no time", x.slow(), 1);
        due("23 1 at least", x.period(), 1);
        x = on("road period 5 mud 0;" + C + C + "wait 0 0 takes 0 lag 2;wait 1 1 takes 0 lag 1;wait 0 1 takes 9 lag 0;");
        due("26 one ring is more than none", x.leave(), 0);
        x = on("road period 5 mud 0;" + C + "wait 0 0 takes 6 lag 1;wait 0 0 takes 0 lag 1;");
        due("26 the slower one", x.leave(), 0);
        x = on("road period 5 mud 0;" + C + C + "wait 0 1 takes 9 lag 0;wait 0 0 takes 0 lag 1;");
        due("26 no rings is least of all", x.leave(), 1);
        // Two coaches, two and three waits, and one alone: 2 * 3 + 1
        x = on("road period 5 mud 0;" + C + C + "wait 0 1 takes 1 lag 0;wait 0 1 takes 1 lag 1;wait 1 0 takes 2 lag 1;"
            + "wait 1 0 takes 2 lag 2;wait 1 0 takes 2 lag 1;wait 1 1 takes 3 lag 1;");
        due("22 sets of waits", x.rings(), 7);
        due("21 all of the slowest pace", x.slow(), 3);
        // A coach that is twice a TO is in no one ring: 0 1 0 2 0 is not counted
        x = on("road period 5 mud 0;" + C + C + C + "wait 0 1 takes 1 lag 0;wait 1 0 takes 1 lag 1;wait 0 2 takes 1 lag 0;"
            + "wait 2 0 takes 1 lag 1;");
        due("22 no coach twice", x.rings(), 2);
        x = on("road period 1 mud 0;" + C + C + C + C + C + C + "wait 0 1 takes 1 lag 0;wait 1 2 takes 1 lag 0;wait 2 3 takes 1 lag 0;"
            + "wait 3 4 takes 1 lag 0;wait 4 5 takes 1 lag 0;wait 5 0 takes 1 lag 1;takes:999;");
        due("20 all six", x.slowest(0), 5994);
        due("23 all six", x.period(), 5994);
        due("21 all six", x.slow(), 63);
        due("25 all six", x.room(0), 1 - 5994 - 1000000);
    }

    // 24, 27
    private static void keeping() {
        CoachWaits x = on(RINGS);
        due("24", x.hour(0, 5), 0);
        due("24 the later one", x.hour(1, 5), 1);
        due("24 behind it", x.hour(2, 5), 8);
        due("24 can't be", x.hour(2, 4), -1);
        due("24 no coach", x.hour(3, 0), -2);
        due("24 no period", x.hour(0, 0), -3);
        due("24 too long", x.hour(0, 1000), -3);
        due("24 long", x.hour(2, 999), 8);
        x.mud(1);
        due("24 by the mud", x.hour(2, 6), 10);
        x = on("road period 5 mud 0;" + C + C + C + "wait 2 0 takes 9 lag 1;wait 1 2 takes 2 lag 0;wait 0 0 takes 3 lag 1;");
        due("24 0 and more", x.hour(0, 4), 7);
        due("24 0 and more", x.hour(2, 4), 2);
        due("24 0 and more", x.hour(0, 999), 0);
        x = on(RINGS);
        due("27 none", x.leaves(5, 0), 0);
        due("27 none", x.leaves(5, 1), 0);
        due("27 4: the rings of 9 and 10 by 2", x.leaves(4, 0), 1);
        due("27 4: the rings of 9 and 10 by 2", x.leaves(4, 1), 4);
        due("27 3: the one of 4, too", x.leaves(3, 0), 2);
        due("27 3: the one of 4, too", x.leaves(3, 1), 5);
        due("27 what", x.leaves(0, 2), -2);
        due("27 what", x.leaves(1, -1), -2);
        due("27 no period", x.leaves(0, 0), -3);
        due("27 too long", x.leaves(1000, 0), -3);
        x = on("road period 5 mud 0;" + C + C + "wait 0 1 takes 4 lag 0;wait 1 0 takes 5 lag 1;");
        due("27 of like ones the least", x.leaves(8, 1), 1);
    }

    // 28, 29
    private static void spreads() {
        CoachWaits x = on(PAIR);
        // 9 9, 6 6, 3 3, 0 0
        due("28 times", x.spread(0, 9, 0), 6);
        due("28 together", x.spread(0, 9, 1), 36);
        due("28 last", x.spread(0, 9, 2), 3);
        due("28 who", x.spread(0, 9, 3), 3);
        x.hold(1, 9);
        x.round(0);
        x.hold(0, 4);
        due("28 as all is planned", x.spread(0, 9, 1), 36);
        due("28 in none", x.spread(0, 0, 2), 0);
        due("28 in none", x.spread(1, 0, 3), 0);
        due("28 of one", x.spread(1, 2, 3), 2);
        due("28 of one", x.spread(1, 2, 2), 1);
        due("28 far", x.spread(0, 99, 2), 33);
        due("28 no coach", x.spread(2, 100, 0), -2);
        due("28 what", x.spread(0, 100, 4), -2);
        due("28 what", x.spread(0, 1, -1), -2);
        due("28 too much", x.spread(0, 100, 0), -3);
        due("28 below 0", x.spread(0, -1, 0), -3);
        due("28 nothing is done", x.coach(0, 4), 4);
        x.mud(7);
        due("28 by the mud", x.spread(0, 0, 0), 198);
        x = on(GROWS);
        due("28 99 rounds", x.spread(0, 1, 1), 3 * 99 * 100 / 2 + 99);
        due("28 99 rounds", x.spread(0, 1, 2), 99);
        x = on(PAIR);
        // 1 may come in 3 later than planned for 0 behind it is planned at 10, and 7 is there
        due("29 the last one", x.leeway(1), 3);
        due("29 none", x.leeway(0), 0);
        due("29 no coach", x.leeway(2), -2);
        due("29 no coach", x.leeway(-1), -2);
        x.mud(7);
        due("29 late without it", x.leeway(1), -1);
        x = on(GROWS);
        due("29 alone", x.leeway(0), 99);
        x = on("road period 9 mud 0;" + C + C + "wait 0 1 takes 0 lag 0;waits:late<40 or late>60;");
        due("29 the greatest, whatever is between", x.leeway(0), 60);
        String slowly = "road period 5 mud 0;" + C + C + "wait 0 0 takes 6 lag 1;wait 0 1 takes 0 lag 0;waits:to=0 or late>";
        due("29 in the 99th round", on(slowly + "98;").leeway(0), -1);
        due("29 in the 99th round", on(slowly + "99;").leeway(0), 0);
        due("28 in the 99th round", on(slowly + "99;").spread(0, 0, 3), 1);
        due("28 in the 99th round", on(slowly + "98;").spread(0, 0, 3), 3);
    }

    // 30, 31, 32
    private static void inTime() {
        CoachWaits x = on(PAIR);
        due("30 now", x.soonest(), 0);
        due("31 none", x.way(0), -1);
        due("31 below 0", x.way(-1), -3);
        x.hold(0, 9);
        // The first round can't be helped; 1 is left behind in it or not; in the second 0 must not wait for 1
        due("30", x.soonest(), 3);
        due("31", x.way(0), 0);
        due("31", x.way(1), 2);
        due("31", x.way(2), 0);
        due("31 not so many", x.way(3), -1);
        x.round(0);
        due("30 from there", x.soonest(), 2);
        due("31 from there", x.way(0), 2);
        x.round(2);
        due("30 the last ones count", x.soonest(), 1);
        due("31 the last ones count", x.way(0), 0);
        x.round(0);
        due("30", x.soonest(), 0);
        x.hold(1, 1);
        due("30 held", x.soonest(), 3);
        x = on(GROWS);
        due("30 as planned", x.soonest(), 0);
        x.round(0);
        due("30 a wait left out twice", x.soonest(), 2);
        due("31", x.way(0), 1);
        due("31", x.way(1), 1);
        x = on("road period 9 mud 0;" + C + "wait 0 0 takes 10 lag 1;wait 0 0 takes 10 lag 1;");
        x.round(0);
        due("30 not so few", x.soonest(), -1);
        due("31 not so few", x.way(0), -1);
        due("32 none", x.rows(0, 0), 0);
        due("32 none", x.rows(0, 4), 0);
        x = on("road period 9 mud 0;" + C + "wait 0 0 takes 6 lag 1;");
        x.hold(0, 9);
        due("30 3 less each: 9, then left out", x.soonest(), 3);
        x = on(PAIR);
        x.hold(0, 2);
        due("32 now", x.rows(1, 0), 1);
        due("32 of one", x.rows(1, 1), 1);
        due("32 of one", x.rows(0, 1), 0);
        due("32 of two", x.rows(0, 2), 9);
        due("32 of four", x.rows(1, 4), 81);
        due("32 no coach", x.rows(2, 9), -2);
        due("32 too many", x.rows(0, 5), -3);
        due("32 below 0", x.rows(0, -1), -3);
        due("32 without waits", on(R + C).rows(0, 4), 1);
        due("32 nothing is done", x.count(4), 0);
    }

    // 33, 34
    private static void seen() {
        CoachWaits x = on(PAIR);
        due("33 no coach ahead of missing", x.muds(0, 2), -2);
        due("33 no tray", x.muds(4, 0), -2);
        due("33 missing", x.muds(0, 0), -6);
        due("34 missing", x.look(0, 0), -6);
        due("34 no coach", x.look(0, 2), -2);
        put(x, 0, 1);
        due("33 too few", x.muds(0, 0), -4);
        put(x, 0, 1, -1, 0, 0, 0, 0, 0, 0, 0, 0);
        due("33 too many", x.muds(0, 0), -4);
        due("34 too many", x.look(0, 0), -4);
        put(x, 0, 1, 0, -1);
        due("33 below 0", x.muds(0, 0), -3);
        due("34 below 0", x.look(0, 0), -3);
        // In the first round 1 is late by the mud, 0 isn't till it is 4: then by 1 less 3
        put(x, 0, 0, 0);
        due("33", x.muds(0, 0), 15);
        due("34", x.look(0, 0), 1);
        put(x, 0, 0, 2);
        due("33", x.muds(0, 1), 4);
        due("34 one mud alone: the first", x.look(0, 1), 0);
        put(x, 0, 3, 2, 1L << 32);
        due("33 whole numbers", x.muds(0, 1), 0);
        due("34 none", x.look(0, 1), -1);
        x.mud(3);
        put(x, 1, 2, 9, 9, 9);
        x.lists(1, 1);
        due("33 what was listed", x.muds(1, 1), 8);
        put(x, 1, 2, 0, 0, 0, 0, 0, 0, 0, 0);
        due("33 eight", x.muds(1, 1), 1);
        x.hold(0, 5);
        put(x, 1, 2, 5);
        due("33 held", x.muds(1, 0), 15);
        put(x, 1, 2, 7);
        due("33 held", x.muds(1, 1), 4);
        due("33 the mud stays", x.count(3), 3);
        x = on("road period 1 mud 0;" + C + C + C + "wait 0 0 takes 0 lag 1;wait 1 1 takes 0 lag 1;wait 2 2 takes 0 lag 1;"
            + "takes:if to=0 then if mud=2 then 5 else 4 end else if to=1 then mud+2 else if mud<3 then 7 else 8 end end end;");
        put(x, 0, 1, 6);
        due("33 muds 0 to 2", x.muds(0, 2), 7);
        due("34 by coach 0 the muds 0 and 1 are alike, by coach 1 none", x.look(0, 2), 1);
        put(x, 0, 1, 3);
        due("33 all but 2", x.muds(0, 0), 1023 - 4);
        due("34 by coach 1", x.look(0, 0), 1);
        put(x, 0, 1, 4);
        due("33 mud 2 alone", x.muds(0, 0), 4);
        due("34 all are alike: the first", x.look(0, 0), 0);
    }

    // 35, 36
    private static void chances() {
        CoachWaits x = on(PAIR);
        due("35 two of ten slip", x.chance(3, 1, 0), 4);
        due("35", x.chance(3, 1, 1), 5);
        due("35 by 0", x.chance(0, 4, 0), 1);
        due("35 by 0", x.chance(0, 4, 1), 1);
        // In the second round 0 is late by 4 - 3, unless nobody slipped by 4 in the first
        due("35 of two", x.chance(4, 2, 0), 16);
        due("35 of two", x.chance(4, 2, 1), 25);
        due("35 never", on(GROWS).chance(0, 1, 0), 0);
        due("35 never", on(GROWS).chance(0, 1, 1), 1);
        due("35 what", x.chance(100, 0, 2), -2);
        due("35 what", x.chance(1, 1, -1), -2);
        due("35 too much", x.chance(100, 1, 0), -3);
        due("35 below 0", x.chance(-1, 1, 0), -3);
        due("35 no round", x.chance(1, 0, 0), -3);
        due("35 no round", x.chance(1, 5, 0), -3);
        due("36", x.mean(0, 4, 1, 0), 2);
        due("36", x.mean(0, 4, 1, 1), 5);
        due("36 behind 0, too", x.mean(1, 4, 1, 0), 4);
        due("36 behind 0, too", x.mean(1, 4, 1, 1), 5);
        // 0 in the second: 1 behind two of ten, and 4 more for one of ten
        due("36 of two", x.mean(0, 4, 2, 0), 3);
        due("36 of two", x.mean(0, 4, 2, 1), 5);
        due("36 none", x.mean(0, 0, 4, 0), 0);
        due("36 none", x.mean(0, 0, 4, 1), 1);
        due("36 no coach", x.mean(2, 100, 1, 0), -2);
        due("36 what", x.mean(0, 100, 1, 2), -2);
        due("36 too much", x.mean(0, 100, 1, 0), -3);
        due("36 no round", x.mean(0, 1, 5, 0), -3);
        x.hold(0, 5);
        due("36 held, and more", x.mean(0, 10, 1, 0), 6);
        due("36 held, and more", x.mean(0, 10, 1, 1), 1);
        due("35 held", x.chance(10, 1, 0), 0);
        due("36 nothing is done", x.coach(0, 4), 5);
    }

    // 37, 38, 39
    private static void trays() {
        CoachWaits x = on(GROWS);
        due("37 no tray", x.numbers(4, 0, 99), -2);
        due("37 no tray", x.numbers(-1, 0, 0), -2);
        due("37 no sort", x.numbers(0, 4, 99), -2);
        due("37 no sort", x.numbers(0, -1, 0), -2);
        due("37 too many", x.numbers(0, 0, 41), -3);
        due("37 below 0", x.numbers(0, 0, -1), -3);
        due("38 missing still", x.write(0, 0, 1), -6);
        due("37", x.numbers(0, 0, 40), 0);
        due("38", x.write(0, 39, 127), 127);
        due("37 stays", x.numbers(0, 0, 41), -3);
        due("38 there still", x.write(0, 39, 1), 1);
        due("38 no number", x.write(0, 40, 1), -7);
        due("38 no number", x.write(0, -1, 1), -7);
        due("38 no tray", x.write(4, 0, 1), -2);
        due("38 8 bits", x.write(0, 0, 128), -128);
        due("38 8 bits", x.write(0, 0, 511), -1);
        x.numbers(0, 1, 1);
        due("38 another one", x.write(0, 1, 1), -7);
        due("38 16 bits", x.write(0, 0, 98304), -32768);
        x.numbers(0, 2, 1);
        due("38 32 bits", x.write(0, 0, 1L << 31), -(1L << 31));
        x.numbers(0, 3, 1);
        due("38 64 bits", x.write(0, 0, Long.MIN_VALUE), Long.MIN_VALUE);
        x.numbers(0, 3, 1);
        due("37 all 0", x.muds(0, 0), 0);
        x.numbers(1, 2, 3);
        due("39", x.lists(1, 0), 3);
        due("39 3, 6, 9 by no mud", x.muds(1, 0), 1);
        due("39 nothing is done", x.count(4), 0);
        due("39 missing", x.lists(2, 0), -6);
        due("39 no coach", x.lists(2, 1), -2);
        due("39 no tray", x.lists(4, 0), -2);
        x.numbers(1, 2, 0);
        due("39 no places", x.lists(1, 0), 0);
        x.rounds(42);
        x.numbers(1, 0, 1);
        x.lists(1, 0);
        due("39 129 is cut to 8 bits", x.muds(1, 0), -3);
    }

    // 40, 41
    private static void images() {
        CoachWaits x = on(PAIR);
        due("41 none yet", x.restore(0), -5);
        due("41 none yet", x.restore(1), -5);
        due("40 none such", x.image(2), -2);
        due("40 none such", x.image(-1), -2);
        due("41 none such", x.restore(2), -2);
        due("41 none such", x.restore(-1), -2);
        x.hold(0, 8);
        x.round(0);
        x.hold(1, 3);
        x.mud(2);
        due("40", x.image(1), 0);
        due("40 all can be undone still", x.count(7), 4);
        tell(x, RINGS);
        x.round(0);
        x.feed(0, 0, 0, 0, 0);
        put(x, 0, 0, 7);
        due("41", x.restore(1), 0);
        due("41 waits", x.count(1), 2);
        due("41 lines", x.count(9), 5);
        due("41 mud", x.count(3), 2);
        due("41 rounds", x.count(4), 1);
        due("41 late", x.count(5), 16);
        due("41 held", x.coach(1, 4), 3);
        due("41 rings", x.rings(), 1);
        due("41 nothing can be undone", x.count(7), 0);
        due("41 the tape stays", x.count(8), 20);
        due("41 the trays stay", x.write(0, 0, 5), 5);
        x.rounds(3);
        due("41 again", x.restore(1), 0);
        due("41 again", x.count(4), 1);
        x = new CoachWaits();
        x.image(0);
        tell(x, PAIR);
        due("41 without a road", x.restore(0), 0);
        due("41 without a road", x.count(0), 0);
        due("41 without a road", x.count(2), 1);
        x = on("road period 9 mud 0;" + C + C + "wait 0 1 takes 4 lag 0;waits:late>4;");
        due("41 its law", x.by(0, 1), 0);
        x.image(0);
        tell(x, "road period 9 mud 0;" + C + C + "wait 0 1 takes 4 lag 0;waits:late<5;");
        due("41 another law", x.by(0, 1), 4);
        x.restore(0);
        due("41 its law again", x.by(0, 1), 0);
    }

    // 42
    private static void counts() {
        CoachWaits x = on(RINGS);
        x.mud(3);
        x.hold(2, 5);
        x.rounds(2);
        x.feed(0, 0, 0, 0, 0);
        due("42 coaches", x.count(0), 3);
        due("42 waits", x.count(1), 5);
        due("42 period", x.count(2), 5);
        due("42 mud", x.count(3), 3);
        due("42 rounds", x.count(4), 2);
        due("42 together", x.count(5), x.coach(0, 2) + x.coach(1, 2) + x.coach(2, 2));
        due("42 who", x.count(6), 7);
        due("42 undoable", x.count(7), 3);
        due("42 tape", x.count(8), 20);
        due("42 lines", x.count(9), 9);
        due("42 others", x.count(10), -1);
        due("42 others", x.count(-1), -1);
        due("42 the constant", CoachWaits.NONE, -1);
        x = on(PAIR);
        x.hold(1, 3);
        x.round(0);
        due("42 who", x.count(6), 2);
        due("42 together", x.count(5), 3);
    }
}
