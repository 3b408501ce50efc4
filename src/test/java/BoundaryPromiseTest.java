/** Sentences of the 42 promises that name a boundary case: a test of its own for each, with the sentence as its remark. */
public final class BoundaryPromiseTest extends Asking {

    private static final String RINGS = "road period 5 mud 0;" + C + C + C + "wait 0 0 takes 4 lag 1;wait 0 1 takes 0 lag 0;"
        + "wait 1 0 takes 9 lag 2;wait 1 2 takes 7 lag 0;wait 0 1 takes 1 lag 0;";
    private static final String NO_RINGS = "road period 5 mud 0;" + C + C + "wait 0 1 takes 4 lag 0;wait 0 1 takes 4 lag 1;";
    /** One coach; two waits alike, of which one can be left out in a round: each round 3 less late. */
    private static final String LESS = "road period 10 mud 0;" + C + "wait 0 0 takes 7 lag 1;wait 0 0 takes 7 lag 1;";

    public static void main(String[] args) throws Exception {
        runAll(BoundaryPromiseTest.class);
    }

    /** Each of these calls answers the code, and nothing that can be read, undone or restored is another one behind them. */
    private static void refused(CoachWaits x, long code, Call... calls) {
        String ahead = stand(x);
        for (int i = 0; i < calls.length; i++) {
            due("refused call " + i, calls[i].on(x), code);
        }
        same("behind refused calls", stand(x), ahead);
    }

    // ---- 1 to 4

    // Promise 1: "`CoachWaits()`: No COACHES."
    static void newObjectHasNoCoaches() {
        CoachWaits x = new CoachWaits();
        due("COACHES", x.count(0), 0);
        refused(x, -2, y -> y.coach(0, 0), y -> y.by(0, 0), y -> y.late(0, 1), y -> y.sets(0, 1), y -> y.hour(0, 1),
            y -> y.spread(0, 0, 0), y -> y.leeway(0), y -> y.rows(0, 0), y -> y.mean(0, 0, 1, 0));
        refused(x, -11, y -> y.hold(0, 0), y -> y.round(1));
        due("a ROUND of nobody", x.round(0), 0);
        due("nobody is LATE", x.calm(), 0);
        due("each is its own", new CoachWaits().count(4), 0);
    }

    // Promise 2: "Twenty bytes come behind those on THE TAPE, the highest of each int first: how many it has."
    static void feedComesBehind() {
        CoachWaits x = new CoachWaits();
        due("the first twenty", x.feed(0x726f6164, 0x20706572, 0x696f6420, 0x31206d75, 0x6420373b), 20);
        due("twenty more", x.feed(0x636f6163, 0x68206174, 0x20332070, 0x61746965, 0x6e636520), 40);
        due("twenty more", x.feed(0x343b2020, 0x20202020, 0x20202020, 0x20202020, 0x202020ff), 60);
        due("all but the last byte", x.road(59), 2);
        due("PERIOD", x.count(2), 1);
        due("MUD", x.count(3), 7);
        due("HOUR", x.coach(0, 0), 3);
        due("patience", x.coach(0, 1), 4);
        due("on an empty one again", x.feed(LEAST, MOST, -1, 0, 1), 20);
        due("a byte of 128", x.road(20), -31);
        due("at the first", x.fault(1), 0);
    }

    // Promise 2: "-5: it would have more than 900."
    static void feedFullTape() {
        CoachWaits x = new CoachWaits();
        feed(x, R + " ".repeat(860));
        due("880", x.count(8), 880);
        due("just 900", x.feed(0x20202020, 0x20202020, 0x20202020, 0x20202020, 0x20202020), 900);
        refused(x, -5, y -> y.feed(0, 0, 0, 0, 0), y -> y.feed(-1, -1, -1, -1, -1));
        due("900 still", x.count(8), 900);
        due("what there was is read", x.road(900), 1);
        due("an empty one takes again", x.feed(0, 0, 0, 0, 0), 20);
    }

    // Promise 3: "The first n bytes of THE TAPE (which is empty then) are THE ROAD"
    static void roadOfTheFirstBytes() {
        CoachWaits x = new CoachWaits();
        feed(x, R + "coach at 1 patience 2;?");
        due("twenty of more", x.road(20), 1);
        due("it is empty then", x.count(8), 0);
        feed(x, R + "coach at 1 patience 2;?");
        due("all but the one that is no TOKEN", x.road(42), 2);
        feed(x, R + "coach at 1 patience 2;?");
        due("with it", x.road(43), -31);
        due("empty with a FAULT, too", x.count(8), 0);
        feed(x, R);
        due("none of twenty", x.road(0), -32);
        due("at its end", x.fault(1), 0);
        due("empty then, too", x.count(8), 0);
        due("none of none", x.road(0), -32);
        due("nothing to read", x.road(1), -3);
    }

    // Promise 3: "ROUNDS are 0, nothing can be UNDONE"
    static void roadBeginsAnew() {
        CoachWaits x = on(GROWS);
        x.rounds(5);
        x.hold(0, 9);
        x.mud(9);
        tell(x, GROWS);
        due("ROUNDS", x.count(4), 0);
        due("can be UNDONE", x.count(7), 0);
        due("undo", x.undo(1), -3);
        due("LATE in the last", x.coach(0, 2), 0);
        due("LATE in the one ahead", x.coach(0, 3), 0);
        due("HELD", x.coach(0, 4), 0);
        due("MUD", x.count(3), 0);
        due("the first ROUND", x.late(0, 1), 3);
    }

    // Promise 3: "are THE ROAD, ROUNDS are 0"
    static void roadInPlaceOfAnother() {
        CoachWaits x = on("road period 9 mud 3;" + C + C + "wait 0 1 takes 1 lag 0;wait 1 0 takes 1 lag 1;takes:50;waits:late<9;");
        due("the TIME of the first", x.waiting(0, 3), 50);
        due("its law doesn't hold", x.by(0, 1), 0);
        due("its RING", x.slowest(0), 100);
        tell(x, "road period 9 mud 3;" + C + C + "wait 0 1 takes 2 lag 0;");
        due("without a law: as told and the MUD", x.waiting(0, 3), 5);
        due("without a law: always", x.by(0, 1), 5);
        due("no RING any more", x.slowest(0), -1);
        due("so any PERIOD is KEPT", x.hour(0, 1), 0);
        due("the other WAIT is none any more", x.waiting(1, 0), -2);
        due("nor to be left OUT", x.round(2), -11);
        tell(x, "road period 9 mud 3;" + C + C + "wait 0 1 takes 9 lag 0;");
        due("the same MUD, another TIME", x.by(0, 1), 12);
        tell(x, "road period 8 mud 3;");
        due("no COACH any more", x.coach(0, 0), -2);
        due("no WAIT any more", x.count(1), 0);
        tell(x, R + C + C);
        due("its COACHES again, without WAITS", x.by(0, 1), 0);
    }

    // Promise 3: "are THE ROAD, ROUNDS are 0"
    static void roadOfFewerThanTheLast() {
        CoachWaits x = on("road period 10 mud 0;" + C.repeat(6) + "wait 0 1 takes 30 lag 0;wait 1 2 takes 30 lag 0;wait 2 3 takes 30 lag 0;"
            + "wait 3 4 takes 30 lag 0;wait 4 5 takes 30 lag 0;wait 5 0 takes 30 lag 1;");
        x.rounds(5);
        due("all six are LATE", x.count(6), 63);
        due("and can't be kept", x.hour(0, 179), -1);
        tell(x, "road period 10 mud 0;" + C + C + "wait 0 1 takes 3 lag 0;");
        due("one of two is LATE", x.round(0), 1);
        due("together", x.count(5), 3);
        due("who", x.count(6), 2);
        due("the HOUR of 0", x.hour(0, 1), 0);
        due("the HOUR of 1", x.hour(1, 1), 3);
        due("ROWS behind which 1 wasn't LATE", x.rows(1, 2), 2);
        due("the PERIOD", x.period(), 1);
        tell(x, "road period 10 mud 0;" + C);
        due("nobody is LATE", x.round(0), 0);
        due("nobody is LATE", x.count(5) + x.count(6) + x.calm() + x.soonest(), 0);
    }

    // Promise 3: "how many LINES (road, too; all stays with a FAULT)"
    static void roadAllStaysWithAFault() {
        CoachWaits x = on(PAIR);
        x.hold(0, 9);
        x.rounds(2);
        x.hold(1, 4);
        x.mud(3);
        x.image(1);
        String[] faults = {"?", "road", "road period 0 mud 0;", R + C.repeat(7), R + C + "takes:5;waits:1=2;wait 1 0 takes 1 lag 1;"};
        int[] codes = {-31, -32, -33, -34, -33};
        String ahead = stand(x).replaceAll(" fault .*", "");
        for (int i = 0; i < faults.length; i++) {
            due("road of " + faults[i], tell(x, faults[i]), codes[i]);
            same("all stays", stand(x).replaceAll(" fault .*", ""), ahead);
        }
        due("its laws, too", x.by(0, 1), 6 - 3 + 3 + 3 + 4);
        due("its RINGS, too", x.rings(), 1);
        due("and it can be UNDONE", x.undo(4), 0);
        due("to its beginning", x.count(4) + x.count(3) + x.coach(0, 4), 0);
    }

    // Promise 3: "how many LINES (road, too; all stays with a FAULT)"
    static void roadLines() {
        sound(R, 1);
        sound(R + "takes:1;", 2);
        sound(R + "waits:1=1;waits:1=1;", 3);
        CoachWaits x = on(FULL + "takes:1;waits:1=1;");
        due("all at most, and both laws", x.count(9), 19);
        sound("road period 1 mud 1;" + "takes:1;".repeat(110), 111);
    }

    // Promise 3: "-3: n is below 0 or above what there is (THE TAPE stays)"
    static void roadBelowZeroOrAbove() {
        CoachWaits x = on(PAIR);
        x.round(0);
        refused(x, -3, y -> y.road(1), y -> y.road(-1), y -> y.road(MOST), y -> y.road(LEAST));
        feed(x, R);
        refused(x, -3, y -> y.road(21), y -> y.road(-1), y -> y.road(900), y -> y.road(901), y -> y.road(MOST), y -> y.road(LEAST));
        due("THE TAPE stays", x.count(8), 20);
        due("and is read", x.road(20), 1);
    }

    // Promise 3: "-30 less the FAULT."
    static void roadMinusThirtyLessTheFault() {
        CoachWaits x = new CoachWaits();
        due("1", tell(x, "?"), -31);
        due("2", tell(x, "mud"), -32);
        due("3", tell(x, "road period 100"), -33);
        due("4", tell(x, R + C.repeat(6) + "coach"), -34);
    }

    // Promise 4: "Of the latest road() that was read, what 0: its FAULT (0), 1: its place (NONE)."
    static void faultOfTheLatestRead() {
        CoachWaits x = new CoachWaits();
        due("none was read", x.fault(0), 0);
        due("none was read", x.fault(1), -1);
        tell(x, "road period 0");
        due("a FAULT", x.fault(0), 3);
        due("its place", x.fault(1), 12);
        x.road(1);
        x.road(-1);
        due("one that wasn't read", x.fault(0), 3);
        due("one that wasn't read", x.fault(1), 12);
        tell(x, R);
        due("none", x.fault(0), 0);
        due("no place", x.fault(1), -1);
        tell(x, "?");
        due("a place of 0", x.fault(1), 0);
        feed(x, " ".repeat(900));
        x.road(900);
        due("a place of 900", x.fault(1), 900);
    }

    // Promise 4: "NONE for others."
    static void faultOfOthers() {
        CoachWaits x = new CoachWaits();
        tell(x, "road period 0");
        refused(x, -1, y -> y.fault(2), y -> y.fault(-1), y -> y.fault(MOST), y -> y.fault(LEAST));
    }

    // ---- 5 to 8

    // Promise 5: "2: how LATE it was in the last ROUND, 3: in the one ahead of that, 4: by how much it is HELD."
    static void coachAheadOfTwoRounds() {
        CoachWaits x = on(GROWS);
        due("no ROUND yet", x.coach(0, 2), 0);
        due("no ROUND yet", x.coach(0, 3), 0);
        x.round(0);
        due("one", x.coach(0, 2), 3);
        due("one: ahead of it as planned", x.coach(0, 3), 0);
        x.round(0);
        due("two", x.coach(0, 2), 6);
        due("two", x.coach(0, 3), 3);
        due("HELD by 0", x.coach(0, 4), 0);
        x.hold(0, 9);
        due("HELD by 9", x.coach(0, 4), 9);
    }

    // Promise 5: "-2."
    static void coachThatIsNone() {
        CoachWaits x = on(PAIR);
        refused(x, -2, y -> y.coach(-1, 0), y -> y.coach(2, 0), y -> y.coach(6, 0), y -> y.coach(MOST, 0), y -> y.coach(LEAST, 0),
            y -> y.coach(0, -1), y -> y.coach(0, 5), y -> y.coach(0, MOST), y -> y.coach(0, LEAST));
        due("the last COACH", x.coach(1, 0), 4);
    }

    // Promise 6: "-2."
    static void waitThatIsNone() {
        CoachWaits x = on(PAIR);
        refused(x, -2, y -> y.waiting(-1, 0), y -> y.waiting(2, 0), y -> y.waiting(10, 0), y -> y.waiting(MOST, 0),
            y -> y.waiting(LEAST, 0), y -> y.waiting(0, -1), y -> y.waiting(0, 4), y -> y.waiting(0, MOST), y -> y.waiting(0, LEAST));
        due("the last WAIT", x.waiting(1, 3), 3);
        due("the tenth", on(FULL).waiting(9, 3), 10);
        due("an eleventh", on(FULL).waiting(10, 3), -2);
    }

    // Promise 7: "-2: the COACH; -5: there is no such ROUND."
    static void byNoCoachNoRound() {
        CoachWaits x = on(PAIR);
        x.hold(0, 5);
        refused(x, -2, y -> y.by(0, -1), y -> y.by(0, 2), y -> y.by(0, 6), y -> y.by(0, MOST), y -> y.by(0, LEAST));
        refused(x, -5, y -> y.by(-1, 0), y -> y.by(3, 0), y -> y.by(10, 0), y -> y.by(11, 0), y -> y.by(20, 0), y -> y.by(100, 0),
            y -> y.by(MOST, 0), y -> y.by(LEAST, 0));
        refused(x, -2, y -> y.by(3, 2), y -> y.by(-1, -1));
        due("the last WAIT left OUT", x.by(2, 0), 5);
        due("the tenth WAIT left OUT", on(FULL).by(10, 0), 0);
        due("no eleventh", on(FULL).by(11, 0), -5);
        due("a ROUND without WAITS", on(R + C).by(0, 0), 0);
        due("none to leave OUT", on(R + C).by(1, 0), -5);
    }

    // Promise 7: "HELD as told."
    static void byHeldAsTold() {
        CoachWaits x = on(PAIR);
        x.hold(1, 9);
        due("HELD alone", x.by(0, 1), 9);
        x.hold(0, 9);
        due("and late by another's", x.by(0, 1), 18);
        due("left OUT, but HELD", x.by(1, 1), 9);
        x.hold(1, 0);
        due("HELD by 0", x.by(1, 1), 0);
    }

    // Promise 8: "For which WAIT a COACH would be the latest in a ROUND now, the first (that is kept and makes it LATE)."
    static void forWhichTheFirst() {
        CoachWaits x = on("road period 9 mud 0;" + C + C + "wait 0 1 takes 3 lag 0;wait 0 1 takes 5 lag 0;wait 0 1 takes 5 lag 0;"
            + "wait 0 1 takes 9 lag 0;waits:late<9;");
        due("of like ones the first", x.forWhich(0, 1), 1);
        due("without it the next", x.forWhich(2, 1), 2);
        due("without the other one", x.forWhich(3, 1), 1);
        x.mud(4);
        due("3 and 4 is kept, 9 isn't", x.forWhich(0, 1), 0);
        due("without it none is", x.forWhich(1, 1), -1);
        x = on(FULL);
        x.hold(0, 9);
        x.round(0);
        x.mud(9);
        due("of ten that make nobody LATE", x.forWhich(0, 0), -1);
    }

    // Promise 8: "NONE: for none; -2; -5."
    static void forWhichNone() {
        CoachWaits x = on(PAIR);
        due("as planned", x.forWhich(0, 1), -1);
        x.hold(1, 5);
        due("LATE by being HELD alone", x.forWhich(0, 1), -1);
        x.hold(0, 5);
        due("LATE for it, and HELD", x.forWhich(0, 1), 0);
        due("left OUT", x.forWhich(1, 1), -1);
        x.round(0);
        due("the first COACH for the last WAIT", x.forWhich(0, 0), 1);
        due("the last WAIT left OUT", x.forWhich(2, 0), -1);
        refused(x, -2, y -> y.forWhich(0, -1), y -> y.forWhich(0, 2), y -> y.forWhich(0, MOST), y -> y.forWhich(0, LEAST),
            y -> y.forWhich(3, 2), y -> y.forWhich(-1, -1));
        refused(x, -5, y -> y.forWhich(-1, 0), y -> y.forWhich(3, 0), y -> y.forWhich(11, 0), y -> y.forWhich(20, 0),
            y -> y.forWhich(MOST, 0), y -> y.forWhich(LEAST, 0));
    }

    // ---- 9 to 13

    // Promise 9: "A ROUND: how many are LATE in it."
    static void roundHowManyAreLate() {
        CoachWaits x = on("road period 9 mud 0;" + C.repeat(6));
        due("nobody", x.round(0), 0);
        for (int c = 0; c < 6; c++) {
            x.hold(c, 1);
        }
        due("all six", x.round(0), 6);
        due("nobody again", x.round(0), 0);
        due("of no COACHES", new CoachWaits().round(0), 0);
    }

    // Promise 9: "-11."
    static void roundThatIsNone() {
        CoachWaits x = on(PAIR);
        x.round(0);
        refused(x, -11, y -> y.round(-1), y -> y.round(3), y -> y.round(10), y -> y.round(11), y -> y.round(20), y -> y.round(29),
            y -> y.round(100), y -> y.round(MOST), y -> y.round(LEAST));
        due("the last WAIT left OUT", x.round(2), 0);
        due("the tenth", on(FULL).round(10), 0);
        due("no eleventh", on(FULL).round(11), -11);
        due("none to leave OUT", new CoachWaits().round(1), -11);
    }

    // Promise 10: "n ROUNDS (1 to 99), none left OUT: how many are LATE in the last one."
    static void roundsOneToNinetyNine() {
        CoachWaits x = on(GROWS);
        due("1", x.rounds(1), 1);
        due("by 3", x.coach(0, 2), 3);
        due("99", x.rounds(99), 1);
        due("by 300", x.coach(0, 2), 300);
        due("ahead of that", x.coach(0, 3), 297);
        due("ROUNDS", x.count(4), 100);
        x = on(PAIR);
        x.hold(0, 9);
        due("LATE in the first three alone", x.rounds(4), 0);
        x.undo(1);
        due("LATE in the last one", x.rounds(3), 2);
    }

    // Promise 10: "-3."
    static void roundsOutOfBounds() {
        CoachWaits x = on(GROWS);
        x.round(0);
        refused(x, -3, y -> y.rounds(0), y -> y.rounds(-1), y -> y.rounds(100), y -> y.rounds(MOST), y -> y.rounds(LEAST));
    }

    // Promise 11: "To HOLD: by how much it was HELD."
    static void holdZeroToNine() {
        CoachWaits x = on(PAIR);
        due("by 0", x.hold(1, 0), 0);
        due("by 9", x.hold(1, 9), 0);
        due("by 0 again", x.hold(1, 0), 9);
        due("no more", x.hold(1, 1), 0);
        x.round(0);
        due("behind a ROUND", x.hold(1, 1), 0);
    }

    // Promise 11: "-11."
    static void holdOutOfBounds() {
        CoachWaits x = on(PAIR);
        x.hold(0, 5);
        refused(x, -11, y -> y.hold(-1, 1), y -> y.hold(2, 1), y -> y.hold(6, 1), y -> y.hold(MOST, 1), y -> y.hold(LEAST, 1),
            y -> y.hold(0, -1), y -> y.hold(0, 10), y -> y.hold(0, MOST), y -> y.hold(0, LEAST));
        due("the sixth", on(FULL).hold(5, 9), 0);
        due("no seventh", on(FULL).hold(6, 9), -11);
    }

    // Promise 12: "Another MUD (0 to 9): what it was. -11."
    static void mudZeroToNine() {
        CoachWaits x = on(PAIR);
        due("0, as it was", x.mud(0), 0);
        due("9", x.mud(9), 0);
        refused(x, -11, y -> y.mud(-1), y -> y.mud(10), y -> y.mud(20), y -> y.mud(MOST), y -> y.mud(LEAST));
        due("0", x.mud(0), 9);
        due("without a road", new CoachWaits().mud(9), 0);
    }

    // Promise 13: "n calls (1 to 10) are UNDONE: how many still can be."
    static void undoOneToTen() {
        CoachWaits x = on(GROWS);
        for (int i = 0; i < 12; i++) {
            x.round(0);
        }
        due("10 of 12", x.undo(10), 0);
        due("two were forgotten", x.count(4), 2);
        due("LATE as then", x.coach(0, 2), 6);
        due("ahead of that", x.coach(0, 3), 3);
        x.round(0);
        x.round(0);
        due("1 of 2", x.undo(1), 1);
        due("the other one", x.undo(1), 0);
        for (int i = 0; i < 10; i++) {
            x.hold(0, i);
        }
        due("9 of 10", x.undo(9), 1);
        due("HELD by the first", x.coach(0, 4), 0);
        due("the last of them", x.undo(1), 0);
    }

    // Promise 13: "-3: n, more than can be."
    static void undoMoreThanCanBe() {
        CoachWaits x = on(GROWS);
        refused(x, -3, y -> y.undo(1), y -> y.undo(0), y -> y.undo(10));
        x.round(0);
        refused(x, -3, y -> y.undo(0), y -> y.undo(-1), y -> y.undo(2), y -> y.undo(MOST), y -> y.undo(LEAST));
        x.rounds(20);
        for (int i = 0; i < 12; i++) {
            x.round(0);
        }
        refused(x, -3, y -> y.undo(11), y -> y.undo(12), y -> y.undo(0));
        due("ten still can be", x.undo(10), 0);
        refused(x, -3, y -> y.undo(1));
    }

    // ---- 14 to 16

    // Promise 14: "what 0: the first place that can't be (NONE), 1: why (0)"
    static void judgeTheFirstPlace() {
        CoachWaits x = on(PAIR);
        x.numbers(0, 1, 40);
        due("forty ROUNDS", x.judge(0, 0), -1);
        due("no why", x.judge(0, 1), 0);
        x.write(0, 39, 3);
        due("the last place", x.judge(0, 0), 39);
        due("why", x.judge(0, 1), 1);
        x.write(0, 7, -1);
        due("the first of two", x.judge(0, 0), 7);
        x.write(0, 0, 200);
        due("the first place", x.judge(0, 0), 0);
        x.numbers(0, 1, 0);
        due("of no numbers", x.judge(0, 0), -1);
        due("of no numbers, why", x.judge(0, 1), 0);
    }

    // Promise 14: "2: how LATE all are together in the last ROUND then, 3: who is LATE in it, as bits."
    static void judgeTheLastRoundThen() {
        CoachWaits x = on(PAIR);
        put(x, 0, 1);
        due("no ROUND at all", x.judge(0, 2), 0);
        due("no ROUND at all", x.judge(0, 3), 0);
        x.hold(1, 6);
        x.round(0);
        due("the last that there was", x.judge(0, 2), 6);
        due("the last that there was", x.judge(0, 3), 2);
        put(x, 1, 1, 109, 20, 119);
        due("no ROUND among them", x.judge(1, 2), 6);
        put(x, 1, 1, 109, 0, 119);
        due("9 and 3, and 12: who is HELD behind it doesn't count", x.judge(1, 2), 24);
        due("both", x.judge(1, 3), 3);
        put(x, 1, 1, 109, 3, 0);
        due("till one can't be", x.judge(1, 2), 6);
        due("till one can't be", x.judge(1, 3), 2);
        due("nothing was done", x.count(4), 1);
    }

    // Promise 14: "-2: the TRAY, what; -6."
    static void judgeRefuses() {
        CoachWaits x = on(PAIR);
        put(x, 1, 1, 0);
        refused(x, -2, y -> y.judge(-1, 0), y -> y.judge(4, 0), y -> y.judge(MOST, 0), y -> y.judge(LEAST, 0), y -> y.judge(1, -1),
            y -> y.judge(1, 4), y -> y.judge(1, MOST), y -> y.judge(1, LEAST), y -> y.judge(0, 4), y -> y.judge(0, -1));
        refused(x, -6, y -> y.judge(0, 0), y -> y.judge(2, 3), y -> y.judge(3, 1));
    }

    // Promise 15: "They are done, till one can't be: how many."
    static void performTillOneCantBe() {
        CoachWaits x = on(PAIR);
        x.numbers(0, 0, 40);
        due("forty", x.perform(0), 40);
        due("forty ROUNDS", x.count(4), 40);
        due("one call", x.count(7), 1);
        put(x, 1, 1, 105, 23, 3, 0);
        due("two, till the third", x.perform(1), 2);
        due("HELD by the first", x.coach(0, 4), 5);
        due("MUD of the second", x.count(3), 3);
        due("the fourth wasn't done", x.count(4), 40);
        due("can be UNDONE", x.undo(1), 1);
        due("as a whole", x.coach(0, 4) + x.count(3), 0);
        put(x, 1, 1, -1, 0);
        due("none", x.perform(1), 0);
        put(x, 1, 1);
        due("of no numbers", x.perform(1), 0);
        due("neither can be UNDONE", x.count(7), 1);
        due("the TRAY stays", x.judge(0, 0), -1);
    }

    // Promise 15: "They are done, till one can't be: how many."
    static void performOneAloneCanBeUndone() {
        CoachWaits x = on(GROWS);
        x.rounds(4);
        x.hold(0, 2);
        x.mud(3);
        put(x, 0, 1, 0);
        String ahead = stand(x);
        due("one", x.perform(0), 1);
        due("later by 3 and MUD 3, and HELD by 2", x.coach(0, 2), 12 + 8);
        due("one call more", x.count(7), 4);
        due("undo", x.undo(1), 3);
        same("as it was", stand(x), ahead);
    }

    // Promise 15: "-2; -6."
    static void performRefuses() {
        CoachWaits x = on(PAIR);
        x.hold(0, 4);
        refused(x, -2, y -> y.perform(-1), y -> y.perform(4), y -> y.perform(MOST), y -> y.perform(LEAST));
        refused(x, -6, y -> y.perform(0), y -> y.perform(1), y -> y.perform(2), y -> y.perform(3));
    }

    // Promise 16: "A WEEK: how many could be."
    static void weekOfWhichNoneCouldBe() {
        CoachWaits x = new CoachWaits();
        // Seed 2 draws a MUD, then a COACH to be HELD, and there is none.
        due("a MUD", x.week(2, 1), 1);
        due("a MUD, and none", x.week(2, 2), 1);
        due("each can be UNDONE", x.count(7), 2);
        int none = -1;
        for (int seed = 0; seed < 50 && none < 0; seed++) {
            if (((1103515245 * seed + 12345) >>> 16) % 6 == 5) {
                none = seed;
            }
        }
        due("a COACH that there isn't", x.week(none, 1), 0);
        due("it did nothing that can be UNDONE", x.count(7), 2);
    }

    // Promise 16: "A WEEK: how many could be."
    static void weekIsUndoneAsAWhole() {
        CoachWaits x = on(GROWS);
        x.rounds(4);
        x.hold(0, 2);
        x.mud(3);
        String ahead = stand(x);
        due("some could be", x.week(77, 40) > 1 ? 1 : 0, 1);
        due("one call more", x.count(7), 4);
        due("undo", x.undo(1), 3);
        same("as it was", stand(x), ahead);
    }

    // Promise 16: "-3: how many times."
    static void weekOutOfBounds() {
        CoachWaits x = on(PAIR);
        refused(x, -3, y -> y.week(1, 0), y -> y.week(1, -1), y -> y.week(1, 41), y -> y.week(1, MOST), y -> y.week(1, LEAST),
            y -> y.week(LEAST, 0), y -> y.week(MOST, 41));
        due("40 on a full road", on(FULL).week(LEAST, 40), 40);
        due("1 on a full road", on(FULL).week(MOST, 1), 1);
    }

    // ---- 17 to 19

    // Promise 17: "How LATE a COACH is in the n-th ROUND GOING (1 to 999). -2; -3."
    static void lateOneTo999() {
        CoachWaits x = on(GROWS);
        due("1", x.late(0, 1), 3);
        due("999", x.late(0, 999), 2997);
        refused(x, -3, y -> y.late(0, 0), y -> y.late(0, -1), y -> y.late(0, 1000), y -> y.late(0, MOST), y -> y.late(0, LEAST));
        refused(x, -2, y -> y.late(-1, 1), y -> y.late(1, 1), y -> y.late(6, 1), y -> y.late(MOST, 1), y -> y.late(LEAST, 1),
            y -> y.late(1, 0), y -> y.late(-1, 1000));
        x = on("road period 10 mud 0;" + C + "wait 0 0 takes 10 lag 1;");
        x.hold(0, 1);
        due("as LATE for ever", x.late(0, 999), 1);
    }

    // Promise 18: "When a COACH sets out in the n-th ROUND GOING (1 to 999)", "-2; -3."
    static void setsOneTo999() {
        CoachWaits x = on(GROWS);
        due("1", x.sets(0, 1), 13);
        due("999", x.sets(0, 999), 9990 + 2997);
        refused(x, -3, y -> y.sets(0, 0), y -> y.sets(0, -1), y -> y.sets(0, 1000), y -> y.sets(0, MOST), y -> y.sets(0, LEAST));
        refused(x, -2, y -> y.sets(-1, 1), y -> y.sets(1, 1), y -> y.sets(6, 1), y -> y.sets(MOST, 1), y -> y.sets(LEAST, 1),
            y -> y.sets(1, 0), y -> y.sets(-1, 1000));
    }

    // Promise 18: "the PERIOD times the number of that ROUND (those that there were counted), its HOUR, how LATE it is, added."
    static void setsCountsThoseThatWere() {
        CoachWaits x = on("road period 99 mud 0;coach at 99 patience 0;wait 0 0 takes 99 lag 1;takes:999;");
        due("the first", x.sets(0, 1), 99 + 99 + 900);
        x.rounds(99);
        due("the 100th", x.sets(0, 1), 9900 + 99 + 90000);
        x.rounds(99);
        due("LATE is cut", x.sets(0, 1), 99 * 199 + 99 + 100000);
        x.undo(1);
        due("undone", x.sets(0, 1), 9900 + 99 + 90000);
    }

    // Promise 19: "nobody was LATE in the last two (those that there were counted, too), and nobody is HELD any more, first."
    static void calmCountsThoseThatWere() {
        CoachWaits x = on("road period 10 mud 0;" + C);
        due("no ROUNDS at all", x.calm(), 0);
        x.hold(0, 1);
        due("HELD", x.calm(), 3);
        x.round(0);
        due("LATE in the last", x.calm(), 2);
        x.round(0);
        due("LATE in the one ahead", x.calm(), 1);
        x.round(0);
        due("calm", x.calm(), 0);
        x = on(GROWS);
        due("though LATE from the next one on", x.calm(), 0);
    }

    /** LATE by n now, 1 less in each ROUND: it takes n + 1 ROUNDS. */
    private static CoachWaits lateBy(int n) {
        CoachWaits x = on("road period 10 mud 0;" + C + "wait 0 0 takes 0 lag 1;takes:if mud=0 then 9 else 20 end;");
        x.mud(1);
        x.rounds(n / 10 - 1);
        x.hold(0, n % 10);
        x.round(0);
        x.mud(0);
        due("LATE now", x.coach(0, 2), n);
        return x;
    }

    // Promise 19: "NONE: not behind 999."
    static void calmBehind999() {
        due("behind 998", lateBy(997).calm(), 998);
        due("behind 999", lateBy(998).calm(), 999);
        due("not behind 999", lateBy(999).calm(), -1);
        CoachWaits x = on(GROWS);
        x.round(0);
        due("never", x.calm(), -1);
    }

    // ---- 20 to 27

    // Promise 20: "NONE: there are no RINGS; -2: what."
    static void slowestNone() {
        CoachWaits x = on(NO_RINGS);
        due("no RINGS: above", x.slowest(0), -1);
        due("no RINGS: below", x.slowest(1), -1);
        refused(x, -2, y -> y.slowest(-1), y -> y.slowest(2), y -> y.slowest(MOST), y -> y.slowest(LEAST));
        x = on(RINGS);
        refused(x, -2, y -> y.slowest(-1), y -> y.slowest(2), y -> y.slowest(MOST), y -> y.slowest(LEAST));
        due("without a road", new CoachWaits().slowest(0), -1);
        tell(x, NO_RINGS);
        due("another road without", x.slowest(0), -1);
    }

    // Promise 20: "what 0: the number above, 1: below, in lowest terms."
    static void slowestInLowestTerms() {
        CoachWaits x = on("road period 5 mud 0;" + C + "wait 0 0 takes 6 lag 2;");
        due("6 by 2: above", x.slowest(0), 3);
        due("6 by 2: below", x.slowest(1), 1);
        x = on("road period 5 mud 0;" + C + "wait 0 0 takes 7 lag 2;");
        due("7 by 2: above", x.slowest(0), 7);
        due("7 by 2: below", x.slowest(1), 2);
        x = on("road period 5 mud 0;" + C + "wait 0 0 takes 0 lag 2;");
        due("0 by 2: above", x.slowest(0), 0);
        due("0 by 2: below", x.slowest(1), 1);
        x = on("road period 5 mud 0;" + C + C + "wait 0 1 takes 9 lag 2;wait 1 0 takes 7 lag 2;wait 0 0 takes 7 lag 2;");
        due("16 by 4 is above 7 by 2: above", x.slowest(0), 4);
        due("16 by 4 is above 7 by 2: below", x.slowest(1), 1);
    }

    // Promise 21: "COACHES in RINGS of the SLOWEST PACE, as bits."
    static void slowOfLikePaces() {
        due("no RINGS", on(NO_RINGS).slow(), 0);
        due("no WAITS", new CoachWaits().slow(), 0);
        String three = "road period 5 mud 0;" + C + C + C;
        due("7 by 2 and 7 by 2, but not 3 by 1",
            on(three + "wait 0 0 takes 7 lag 2;wait 1 1 takes 3 lag 1;wait 2 2 takes 7 lag 2;").slow(), 5);
        due("4 by 2 and 2 by 1 are alike", on(three + "wait 0 0 takes 4 lag 2;wait 1 1 takes 2 lag 1;").slow(), 3);
        due("9 by 1 alone", on(three + "wait 0 0 takes 9 lag 1;wait 1 1 takes 3 lag 1;wait 2 2 takes 8 lag 1;").slow(), 1);
        due("a PACE of 0", on(three + "wait 2 2 takes 0 lag 1;").slow(), 4);
        due("all six", on("road period 5 mud 0;" + C.repeat(6) + "wait 0 1 takes 1 lag 0;wait 1 2 takes 1 lag 0;wait 2 3 takes 1 lag 0;"
            + "wait 3 4 takes 1 lag 0;wait 4 5 takes 1 lag 0;wait 5 0 takes 1 lag 1;").slow(), 63);
    }

    // Promise 22: "How many RINGS there are (told as sets of WAITS, each once)."
    static void ringsEachOnce() {
        due("no WAITS", new CoachWaits().rings(), 0);
        due("none", on(NO_RINGS).rings(), 0);
        due("ten alone", on(FULL).rings(), 10);
        due("five by five", on("road period 5 mud 0;" + C + C + "wait 0 1 takes 1 lag 0;".repeat(5) + "wait 1 0 takes 1 lag 1;".repeat(5)).rings(), 25);
        due("one of three, told once", on("road period 5 mud 0;" + C.repeat(3)
            + "wait 1 2 takes 1 lag 0;wait 2 0 takes 1 lag 1;wait 0 1 takes 1 lag 0;").rings(), 1);
        // Between 0 and 1, 1 and 2, 2 and 3 two each, both ways: 3 of two; from 0 to 3 and back none more.
        due("a road there and back", on("road period 5 mud 0;" + C.repeat(4) + "wait 0 1 takes 1 lag 0;wait 1 2 takes 1 lag 0;"
            + "wait 2 3 takes 1 lag 0;wait 3 2 takes 1 lag 1;wait 2 1 takes 1 lag 1;wait 1 0 takes 1 lag 1;").rings(), 3);
        due("two, two, three ways, and one back", on("road period 5 mud 0;" + C.repeat(4) + "wait 0 1 takes 1 lag 0;".repeat(2)
            + "wait 1 2 takes 1 lag 0;".repeat(2) + "wait 2 3 takes 1 lag 0;".repeat(3) + "wait 3 0 takes 1 lag 1;").rings(), 12);
    }

    // Promise 23: "The least PERIOD (a whole number, 1 at least) that can be KEPT."
    static void periodOneAtLeast() {
        due("no RINGS", on(NO_RINGS).period(), 1);
        due("without a road", new CoachWaits().period(), 1);
        due("no RINGS, though a lag", on("road period 5 mud 0;" + C + C + "wait 0 1 takes 9 lag 1;wait 0 1 takes 9 lag 2;").period(), 1);
        String one = "road period 5 mud 0;" + C;
        due("0 by 2", on(one + "wait 0 0 takes 0 lag 2;").period(), 1);
        due("1 by 2", on(one + "wait 0 0 takes 1 lag 2;").period(), 1);
        due("2 by 2", on(one + "wait 0 0 takes 2 lag 2;").period(), 1);
        due("3 by 2", on(one + "wait 0 0 takes 3 lag 2;").period(), 2);
        due("4 by 2", on(one + "wait 0 0 takes 4 lag 2;").period(), 2);
        due("999 by 1", on(one + "wait 0 0 takes 4 lag 1;takes:999;").period(), 999);
        due("beyond 999", on(one + C + "wait 0 1 takes 4 lag 0;wait 1 0 takes 4 lag 1;takes:999;").period(), 1998);
    }

    // Promise 24: "The HOUR of a COACH by which a PERIOD p (1 to 999) is KEPT. NONE: it can't be; -2; -3."
    static void hourOfPeriodsOneTo999() {
        CoachWaits x = on("road period 5 mud 0;" + C + C + "wait 0 1 takes 4 lag 0;wait 1 0 takes 4 lag 1;takes:if to=0 then 995 else time end;");
        due("just the least PERIOD", x.hour(1, 999), 4);
        due("just the least PERIOD", x.hour(0, 999), 0);
        due("1 less", x.hour(1, 998), -1);
        due("1", x.hour(0, 1), -1);
        refused(x, -3, y -> y.hour(0, 0), y -> y.hour(0, -1), y -> y.hour(0, 1000), y -> y.hour(0, MOST), y -> y.hour(0, LEAST));
        refused(x, -2, y -> y.hour(-1, 999), y -> y.hour(2, 999), y -> y.hour(6, 1), y -> y.hour(MOST, 1), y -> y.hour(LEAST, 1),
            y -> y.hour(2, 0), y -> y.hour(-1, 1000));
        due("NONE for a COACH in no RING, too", on("road period 5 mud 0;" + C + C + "wait 0 0 takes 6 lag 1;").hour(1, 5), -1);
        due("a PERIOD of 1", on("road period 5 mud 0;" + C + "wait 0 0 takes 1 lag 1;").hour(0, 1), 0);
    }

    // Promise 24: "NONE: it can't be"
    static void hourTheLastWaitChangesNothing() {
        CoachWaits x = on("road period 5 mud 0;" + C.repeat(4) + "wait 2 3 takes 2 lag 0;wait 1 2 takes 2 lag 0;wait 0 1 takes 2 lag 0;wait 0 1 takes 0 lag 0;");
        due("the last COACH is put off in the third turn", x.hour(3, 1), 6);
        due("the second", x.hour(1, 1), 2);
        x = on("road period 5 mud 0;" + C.repeat(6) + "wait 4 5 takes 1 lag 0;wait 3 4 takes 1 lag 0;wait 2 3 takes 1 lag 0;"
            + "wait 1 2 takes 1 lag 0;wait 0 1 takes 1 lag 0;wait 5 0 takes 1 lag 1;wait 0 0 takes 0 lag 2;");
        due("six of 1 by 1: just", x.hour(5, 6), 5);
        due("six of 1 by 1: not", x.hour(5, 5), -1);
    }

    // Promise 25: "ROOM of a WAIT (if it is below 0: 1000000 less). NONE: it is in no RING; -2."
    static void roomBelowZero() {
        String one = C + "wait 0 0 takes 6 lag 1;";
        due("1", on("road period 7 mud 0;" + one).room(0), 1);
        due("0", on("road period 6 mud 0;" + one).room(0), 0);
        due("-1", on("road period 5 mud 0;" + one).room(0), -1000001);
        CoachWaits x = on(RINGS);
        due("in no RING", x.room(3), -1);
        due("the last WAIT", x.room(4), 0);
        refused(x, -2, y -> y.room(-1), y -> y.room(5), y -> y.room(10), y -> y.room(MOST), y -> y.room(LEAST));
        due("no WAITS", new CoachWaits().room(0), -2);
        x = on("road period 5 mud 0;" + C + C + "wait 0 0 takes 9 lag 1;wait 1 1 takes 1 lag 1;");
        due("a RING that isn't through it", x.room(1), 4);
        due("and the one through it", x.room(0), -1000004);
        due("no RINGS", on(NO_RINGS).room(0), -1);
    }

    // Promise 26: "(no RINGS: least of all), the first (so 0, if there are no RINGS). NONE: there are no WAITS."
    static void leaveTheFirst() {
        due("no WAITS", new CoachWaits().leave(), -1);
        due("COACHES, but no WAITS", on(R + C).leave(), -1);
        due("no RINGS", on(NO_RINGS).leave(), 0);
        due("all alike", on(FULL).leave(), 0);
        String two = "road period 5 mud 0;" + C + C;
        due("no RINGS is less than a PACE of 0", on(two + "wait 0 1 takes 9 lag 0;wait 0 0 takes 0 lag 1;").leave(), 1);
        due("the last one", on(two + "wait 0 0 takes 1 lag 1;wait 0 0 takes 1 lag 1;wait 1 1 takes 9 lag 1;").leave(), 2);
        due("5 by 2 stays in place of 3 by 1", on(two + "wait 0 0 takes 5 lag 2;wait 1 1 takes 3 lag 1;").leave(), 1);
        due("3 by 1 is as 6 by 2: the first", on(two + "wait 0 0 takes 6 lag 2;wait 1 1 takes 3 lag 1;").leave(), 0);
    }

    // Promise 27: "so that a PERIOD p (1 to 999) can be KEPT", "-2: what; -3."
    static void leavesPeriodsOneTo999() {
        CoachWaits x = on("road period 5 mud 0;" + C + "wait 0 0 takes 6 lag 1;".repeat(10));
        due("all ten", x.leaves(1, 0), 10);
        due("all ten", x.leaves(1, 1), 1023);
        due("1 too short", x.leaves(5, 0), 10);
        due("just kept", x.leaves(6, 0), 0);
        due("999", x.leaves(999, 1), 0);
        refused(x, -3, y -> y.leaves(0, 0), y -> y.leaves(-1, 1), y -> y.leaves(1000, 0), y -> y.leaves(MOST, 1), y -> y.leaves(LEAST, 0));
        refused(x, -2, y -> y.leaves(1, -1), y -> y.leaves(1, 2), y -> y.leaves(1, MOST), y -> y.leaves(1, LEAST), y -> y.leaves(0, 2),
            y -> y.leaves(1000, -1));
        x = on("road period 5 mud 0;" + C + C + "wait 0 0 takes 9 lag 2;wait 0 0 takes 10 lag 2;");
        due("9 by 2 and 10 by 2, each by 4", x.leaves(4, 1), 3);
        due("9 by 2 and 10 by 2, each by 5", x.leaves(5, 1), 0);
        due("no WAITS", new CoachWaits().leaves(1, 0), 0);
        due("no WAITS", new CoachWaits().leaves(1, 1), 0);
    }

    // Promise 27: "what 0: how many, 1: which, as bits (of like ones the least)."
    static void leavesTheLeastBits() {
        CoachWaits x = on("road period 5 mud 0;" + C + C + C + "wait 2 2 takes 1 lag 1;wait 0 1 takes 4 lag 0;wait 1 0 takes 5 lag 1;");
        due("WAIT 1 or 2", x.leaves(8, 1), 2);
        due("one of them", x.leaves(8, 0), 1);
        x = on("road period 5 mud 0;" + C.repeat(3) + "wait 0 1 takes 4 lag 0;wait 0 2 takes 4 lag 0;wait 1 0 takes 4 lag 1;"
            + "wait 2 0 takes 4 lag 1;wait 0 0 takes 9 lag 1;");
        due("WAITS 0 and 1, and the one alone", x.leaves(7, 1), 1 + 2 + 16);
        due("the one alone", x.leaves(8, 1), 16);
        due("fewer, though the bits are more", on("road period 5 mud 0;" + C.repeat(3) + "wait 0 1 takes 4 lag 0;wait 0 2 takes 4 lag 0;"
            + "wait 1 2 takes 0 lag 0;wait 2 0 takes 4 lag 1;").leaves(3, 1), 8);
    }

    // ---- 28 to 32

    // Promise 28: "SPREAD of a COACH by n (0 to 99)", "-2: the COACH, what; -3: n."
    static void spreadByZeroTo99() {
        CoachWaits x = on("road period 10 mud 0;" + C + C);
        due("by 0", x.spread(0, 0, 1), 0);
        due("by 99", x.spread(1, 99, 1), 99);
        due("who", x.spread(1, 99, 3), 2);
        refused(x, -3, y -> y.spread(0, -1, 0), y -> y.spread(0, 100, 0), y -> y.spread(0, MOST, 0), y -> y.spread(0, LEAST, 0));
        refused(x, -2, y -> y.spread(-1, 1, 0), y -> y.spread(2, 1, 0), y -> y.spread(MOST, 1, 0), y -> y.spread(LEAST, 1, 0),
            y -> y.spread(0, 1, -1), y -> y.spread(0, 1, 4), y -> y.spread(0, 1, MOST), y -> y.spread(0, 1, LEAST),
            y -> y.spread(2, 100, 0), y -> y.spread(0, -1, 4));
    }

    // Promise 28: "2: the last ROUND in which one is (1: that in which it is HELD; 0: in none)"
    static void spreadTheLastRound() {
        CoachWaits x = on("road period 10 mud 0;" + C + C + "wait 0 1 takes 5 lag 1;");
        due("in none", x.spread(0, 0, 2), 0);
        due("in that in which it is HELD", x.spread(0, 5, 2), 1);
        due("one behind it", x.spread(0, 6, 2), 2);
        x.mud(6);
        due("in all", x.spread(0, 0, 2), 99);
        due("in all: 98 and the first, too", x.spread(0, 0, 0), 99);
        x = on("road period 10 mud 0;" + C + C + "wait 0 1 takes 12 lag 2;");
        due("two behind it", x.spread(0, 9, 2), 3);
    }

    // Promise 29: "The greatest n (0 to 99) by which a COACH can be HELD so (a SPREAD) that no other one is LATE. NONE: by none; -2."
    static void leewayZeroTo99() {
        due("alone on the road", on("road period 10 mud 0;" + C).leeway(0), 99);
        String two = "road period 99 mud 0;" + C + "coach at 99 patience 0;wait 0 1 takes ";
        due("99", on(two + "0 lag 0;").leeway(0), 99);
        due("98", on(two + "1 lag 0;").leeway(0), 98);
        due("0", on(two + "99 lag 0;").leeway(0), 0);
        due("1 late without it", on(two + "99 lag 0;takes:time+1;").leeway(0), -1);
        due("LATE itself harms nobody else", on(two + "99 lag 0;takes:time+1;").leeway(1), 99);
        due("later for 99 ROUNDS, alone", on(GROWS).leeway(0), 99);
        // COACH 0 is later by 1 in each ROUND: by 99 in the last one of a SPREAD.
        String slowly = "road period 5 mud 0;" + C + C + "wait 0 0 takes 6 lag 1;wait 0 1 takes 0 lag 0;waits:to=0 or late>";
        due("another one in the 99th ROUND alone", on(slowly + "98;").leeway(0), -1);
        due("not in the 99th ROUND, by 0", on(slowly + "99;").leeway(0), 0);
        CoachWaits x = on(PAIR);
        refused(x, -2, y -> y.leeway(-1), y -> y.leeway(2), y -> y.leeway(6), y -> y.leeway(MOST), y -> y.leeway(LEAST));
        x.hold(0, 9);
        x.round(0);
        due("as all is planned", x.leeway(1), 3);
    }

    // Promise 30: "IN TIME: the fewest ROUNDS (0 to 5). NONE: not in so few."
    static void soonestZeroToFive() {
        CoachWaits x = on(LESS);
        due("0", x.soonest(), 0);
        x.hold(0, 3);
        due("3, 0, 0", x.soonest(), 3);
        x.hold(0, 6);
        due("6, 3, 0, 0", x.soonest(), 4);
        x.hold(0, 9);
        due("9, 6, 3, 0, 0", x.soonest(), 5);
        x.round(0);
        due("6, 3, 0, 0", x.soonest(), 4);
        x.hold(0, 9);
        due("15, 12, 9, 6, 3, 0, 0", x.soonest(), -1);
        x.hold(0, 4);
        due("10, 7, 4, 1, 0, 0", x.soonest(), -1);
        x.hold(0, 3);
        due("9, 6, 3, 0, 0", x.soonest(), 5);
        x.undo(3);
        x.round(0);
        due("3, 0, 0", x.soonest(), 3);
    }

    // Promise 31: "The i-th DEED of it, of like ROWS the first. NONE: not so many, not in so few; -3: i is below 0."
    static void wayNoneAndBelowZero() {
        CoachWaits x = on(LESS);
        due("IN TIME now", x.way(0), -1);
        x.hold(0, 9);
        for (int i = 0; i < 5; i++) {
            due("DEED " + i, x.way(i), 0);
        }
        due("not so many", x.way(5), -1);
        due("not so many", x.way(6), -1);
        due("not so many", x.way(MOST), -1);
        refused(x, -3, y -> y.way(-1), y -> y.way(LEAST));
        x.round(0);
        x.hold(0, 9);
        due("not in so few", x.way(0), -1);
        due("not in so few", x.way(4), -1);
        refused(x, -3, y -> y.way(-1), y -> y.way(LEAST));
        due("without a road", new CoachWaits().way(0), -1);
    }

    // Promise 32: "How many ROWS of just n ROUNDS (0 to 4) there are behind which a COACH wasn't LATE in the last ROUND. -2; -3."
    static void rowsOfZeroToFour() {
        CoachWaits x = on(FULL);
        due("of none", x.rows(0, 0), 1);
        due("of one", x.rows(0, 1), 11);
        due("of four", x.rows(0, 4), 11 * 11 * 11 * 11);
        due("of the sixth", x.rows(5, 4), 11 * 11 * 11 * 11);
        refused(x, -3, y -> y.rows(0, -1), y -> y.rows(0, 5), y -> y.rows(0, MOST), y -> y.rows(0, LEAST));
        refused(x, -2, y -> y.rows(-1, 1), y -> y.rows(6, 1), y -> y.rows(MOST, 1), y -> y.rows(LEAST, 1), y -> y.rows(6, 5),
            y -> y.rows(-1, -1));
        x.hold(0, 9);
        x.round(0);
        due("of none: the last that there was", x.rows(0, 0), 0);
        due("of none: another COACH", x.rows(1, 0), 1);
        x = on(GROWS);
        due("one of two", x.rows(0, 1), 1);
        due("the last left OUT", x.rows(0, 4), 8);
        x = on("road period 10 mud 0;" + C + C + "wait 0 0 takes 13 lag 1;wait 1 1 takes 13 lag 1;");
        due("each is LATE for its own: the first", x.rows(0, 1), 1);
        due("each is LATE for its own: the second", x.rows(1, 1), 1);
        due("the last of two", x.rows(0, 2), 3);
    }

    // ---- 33 to 36

    private static CoachWaits seeing(int sort, long... seen) {
        CoachWaits x = on(PAIR);
        put(x, 0, sort, seen);
        return x;
    }

    // Promise 33: "-2: the TRAY, the COACH; -6"
    static void mudsNoTrayNoCoach() {
        CoachWaits x = seeing(1, 0);
        refused(x, -2, y -> y.muds(-1, 0), y -> y.muds(4, 0), y -> y.muds(MOST, 0), y -> y.muds(LEAST, 0), y -> y.muds(0, -1),
            y -> y.muds(0, 2), y -> y.muds(0, MOST), y -> y.muds(0, LEAST), y -> y.muds(1, 2), y -> y.muds(4, 2));
        refused(x, -6, y -> y.muds(1, 0), y -> y.muds(3, 1));
        x.numbers(1, 0, 0);
        refused(x, -2, y -> y.muds(1, 2));
    }

    // Promise 33: "-4: not 1 to 8 numbers"
    static void mudsOneToEightNumbers() {
        refused(seeing(1), -4, y -> y.muds(0, 0));
        due("one", seeing(1, 0).muds(0, 1), 1);
        due("eight", seeing(1, 0, 0, 0, 0, 0, 0, 0, 0).muds(0, 1), 1);
        refused(seeing(1, 0, 0, 0, 0, 0, 0, 0, 0, 0), -4, y -> y.muds(0, 0));
        refused(seeing(1, -1, 0, 0, 0, 0, 0, 0, 0, 0), -4, y -> y.muds(0, 0));
        refused(seeing(1, new long[40]), -4, y -> y.muds(0, 0));
    }

    // Promise 33: "-3: one is below 0."
    static void mudsOneIsBelowZero() {
        refused(seeing(1, -1), -3, y -> y.muds(0, 0));
        refused(seeing(1, 0, 0, 0, 0, 0, 0, 0, -1), -3, y -> y.muds(0, 0));
        refused(seeing(0, 128), -3, y -> y.muds(0, 0));
        refused(seeing(3, Long.MIN_VALUE), -3, y -> y.muds(0, 0));
        refused(seeing(1, 99, -1), -3, y -> y.muds(0, 0));
    }

    // Promise 33: "SEEN of a COACH: MUDS, as bits."
    static void mudsNoneAndAll() {
        CoachWaits x = on("road period 10 mud 0;" + C + C + "wait 0 1 takes 0 lag 0;");
        put(x, 0, 3, 0);
        due("all", x.muds(0, 0), 1023);
        due("MUD 0", x.muds(0, 1), 1);
        put(x, 0, 3, 1L << 32);
        due("none: more than an int", x.muds(0, 0), 0);
        put(x, 0, 3, (1L << 32) + 4);
        due("none: more than an int", x.muds(0, 1), 0);
        put(x, 0, 3, Long.MAX_VALUE);
        due("none: the most", x.muds(0, 1), 0);
        put(x, 0, 2, 9, 9, 9, 9, 9, 9, 9, 9);
        due("MUD 9, eight times", x.muds(0, 1), 512);
        x.hold(1, 9);
        put(x, 0, 2, 18, 9);
        due("HELD in the first", x.muds(0, 1), 512);
        due("the MUD stays", x.count(3), 0);
    }

    // Promise 34: "NONE: there are none; as muds()."
    static void lookRefusesAsMuds() {
        CoachWaits x = seeing(1, 0);
        refused(x, -2, y -> y.look(-1, 0), y -> y.look(4, 0), y -> y.look(MOST, 0), y -> y.look(LEAST, 0), y -> y.look(0, -1),
            y -> y.look(0, 2), y -> y.look(0, MOST), y -> y.look(0, LEAST), y -> y.look(1, 2), y -> y.look(4, 2));
        refused(x, -6, y -> y.look(1, 0), y -> y.look(3, 1));
        refused(seeing(1), -4, y -> y.look(0, 0));
        refused(seeing(1), -2, y -> y.look(0, 2));
        refused(seeing(1, -1, 0, 0, 0, 0, 0, 0, 0, 0), -4, y -> y.look(0, 0));
        refused(seeing(1, 99, 0, 0, 0, 0, 0, 0, -1), -3, y -> y.look(0, 0));
    }

    // Promise 34: "NONE: there are none"
    static void lookNone() {
        due("none is so", seeing(1, 99).look(0, 0), -1);
        due("not to the eighth", seeing(1, 0, 0, 0, 0, 0, 0, 0, 1).look(0, 1), -1);
        due("MUD 0 alone, eight times", seeing(1, 0, 0, 0, 0, 0, 0, 0, 0).look(0, 1), 0);
    }

    // Promise 34: "the greatest number of these MUDS by which it is as LATE in it is least, the first."
    static void lookOfLikeOnesTheFirst() {
        String four = "road period 1 mud 0;" + C.repeat(4) + "wait 0 0 takes 0 lag 1;wait 1 1 takes 0 lag 1;wait 2 2 takes 0 lag 1;wait 3 3 takes 0 lag 1;";
        CoachWaits x = on(four + "takes:5;");
        put(x, 0, 1, 4);
        due("by none told apart: the first", x.look(0, 3), 0);
        x = on(four + "takes:if to=0 then 5 else if to=3 then mud+1 else if mud<5 then 2 else 3 end end end;");
        put(x, 0, 1, 4);
        due("ten apart by the last", x.look(0, 0), 3);
        x = on(four + "takes:if to=0 then 5 else if to=3 then if mud<4 then 2 else 3 end else if mud<5 then 2 else 3 end end end;");
        put(x, 0, 1, 4);
        due("five and five by 1 and 2, four and six by 3", x.look(0, 0), 1);
        put(x, 0, 1, 1);
        due("of MUDS 0 to 3 all are alike", x.look(0, 3), 0);
        due("of MUDS 0 to 4 by 3 four are alike", x.look(0, 2), 3);
        x = on(four + "takes:if to=0 then if mud=0 then 2 else 3 end else if to=3 then if mud<2 then 2 else 3 end else 5 end end;");
        put(x, 0, 1, 1);
        due("of MUDS 0 and 1 one is alike by COACH 0", x.look(0, 3), 0);
        put(x, 0, 1, 2);
        due("of MUDS 2 to 9 by none any is told apart", x.look(0, 3), 0);
        due("of MUDS 1 to 9 by 3 eight are alike", x.look(0, 0), 3);
        x = on(four + "takes:if to=0 then mud+1 else if to=3 then 5 else if mud<5 then 2 else 3 end end end;");
        put(x, 0, 1, 4);
        due("ten apart by the first", x.look(0, 3), 0);
        x = on(four + "takes:if to=0 then if mud=0 then 2 else 3 end else if to=1 then if mud=2 then 2 else 3 end else if mud<3 then 5 else 6 end end end;");
        put(x, 0, 1, 4);
        due("of MUDS 0 to 2 two are alike by 0 and by 1", x.look(0, 3), 0);
        x = on(four + "takes:if to=3 then if mud<5 and not[mud=1 or mud=3]then 2 else 3 end else if to=1 then mud+1 else if mud=1 or mud=3 then 7 else 2 end end end;");
        put(x, 0, 1, 1);
        due("MUDS 0, 2, 4", x.muds(0, 3), 21);
        due("apart by 1, though 0 tells the others apart", x.look(0, 3), 1);
        x = on(four + "takes:if to=2 then if mud=9 then 2 else 3 end else 5 end;");
        put(x, 0, 1, 4);
        due("nine alike is less than ten", x.look(0, 0), 2);
        x = on(four + "takes:if to=0 then if mud<8 then 2 else 3 end else if to=1 then if mud=9 then 4 else 5 end else if mud<9 then 2 else mud end end end;");
        put(x, 0, 1, 2);
        due("of MUDS 8 and 9 the others don't count", x.look(0, 0), 1);
    }

    // Promise 35: "CHANCE by n (0 to 99) that nobody is LATE in the k-th ROUND (1 to 4)", "-2: what; -3: n, k."
    static void chanceOutOfBounds() {
        CoachWaits x = on(PAIR);
        x.hold(0, 4);
        refused(x, -3, y -> y.chance(-1, 1, 0), y -> y.chance(100, 1, 0), y -> y.chance(MOST, 1, 0), y -> y.chance(LEAST, 1, 0),
            y -> y.chance(1, 0, 0), y -> y.chance(1, 5, 0), y -> y.chance(1, -1, 0), y -> y.chance(1, MOST, 0), y -> y.chance(1, LEAST, 0));
        refused(x, -2, y -> y.chance(1, 1, -1), y -> y.chance(1, 1, 2), y -> y.chance(1, 1, MOST), y -> y.chance(1, 1, LEAST),
            y -> y.chance(-1, 1, 2), y -> y.chance(1, 5, -1));
    }

    // Promise 35: "what 0: the number above, 1: below, in lowest terms."
    static void chanceInLowestTerms() {
        CoachWaits x = on("road period 10 mud 0;" + C);
        due("by 0: above", x.chance(0, 1, 0), 1);
        due("by 0: below", x.chance(0, 1, 1), 1);
        due("by 99: above", x.chance(99, 4, 0), 9);
        due("by 99: below", x.chance(99, 4, 1), 10);
        // Once HELD, it is LATE for ever: 9 by 10, four times.
        x = on("road period 10 mud 0;" + C + "wait 0 0 takes 10 lag 1;");
        due("four ROUNDS: above", x.chance(1, 4, 0), 6561);
        due("four ROUNDS: below", x.chance(1, 4, 1), 10000);
        due("one ROUND: below", x.chance(1, 1, 1), 10);
        due("never: above", on(GROWS).chance(99, 4, 0), 0);
        due("never: below", on(GROWS).chance(99, 4, 1), 1);
        due("without COACHES: above", new CoachWaits().chance(99, 4, 0), 1);
        due("without COACHES: below", new CoachWaits().chance(99, 4, 1), 1);
    }

    // Promise 36: "in the k-th ROUND (1 to 4), by n (0 to 99)", "-2: the COACH, what; -3: n, k."
    static void meanOutOfBounds() {
        CoachWaits x = on(PAIR);
        x.hold(0, 4);
        refused(x, -3, y -> y.mean(0, -1, 1, 0), y -> y.mean(0, 100, 1, 0), y -> y.mean(0, MOST, 1, 0), y -> y.mean(0, LEAST, 1, 0),
            y -> y.mean(0, 1, 0, 0), y -> y.mean(0, 1, 5, 0), y -> y.mean(0, 1, -1, 0), y -> y.mean(0, 1, MOST, 0), y -> y.mean(0, 1, LEAST, 0));
        refused(x, -2, y -> y.mean(-1, 1, 1, 0), y -> y.mean(2, 1, 1, 0), y -> y.mean(MOST, 1, 1, 0), y -> y.mean(LEAST, 1, 1, 0),
            y -> y.mean(0, 1, 1, -1), y -> y.mean(0, 1, 1, 2), y -> y.mean(0, 1, 1, MOST), y -> y.mean(0, 1, 1, LEAST),
            y -> y.mean(2, 100, 1, 0), y -> y.mean(0, 1, 5, 2));
    }

    // Promise 36: "what 0: above, 1: below, in lowest terms."
    static void meanInLowestTerms() {
        CoachWaits x = on("road period 10 mud 0;" + C + "wait 0 0 takes 10 lag 1;");
        due("by 0: above", x.mean(0, 0, 4, 0), 0);
        due("by 0: below", x.mean(0, 0, 4, 1), 1);
        due("99 for one of ten, four times: above", x.mean(0, 99, 4, 0), 198);
        due("99 for one of ten, four times: below", x.mean(0, 99, 4, 1), 5);
        due("99 for one of ten: above", x.mean(0, 99, 1, 0), 99);
        due("99 for one of ten: below", x.mean(0, 99, 1, 1), 10);
        due("50 for one of ten is 5: below", x.mean(0, 50, 1, 1), 1);
        x = on("road period 10 mud 0;" + C.repeat(6));
        for (int c = 0; c < 6; c++) {
            due("one of ten for each alone: above", x.mean(c, 3, 2, 0), 3);
            due("one of ten for each alone: below", x.mean(c, 3, 2, 1), 10);
        }
        x = on("road period 1 mud 0;" + C + "wait 0 0 takes 0 lag 1;takes:999;");
        x.rounds(99);
        x.rounds(9);
        due("100000 on the mean, cut by each lot: above", x.mean(0, 99, 4, 0), 100000);
        due("100000 on the mean, cut by each lot: below", x.mean(0, 99, 4, 1), 1);
    }

    // ---- 37 to 42

    // Promise 37: "A TRAY has n numbers of a sort, all 0 (in place of another one): 0."
    static void numbersAllZero() {
        CoachWaits x = on(GROWS);
        put(x, 0, 1, 199, 199, 199);
        due("none can be", x.judge(0, 0), 0);
        due("in place of another one", x.numbers(0, 1, 3), 0);
        due("all 0: three ROUNDS", x.perform(0), 3);
        due("fewer", x.numbers(0, 3, 0), 0);
        due("no number 0", x.write(0, 0, 1), -7);
        due("the most", x.numbers(0, 0, 40), 0);
        due("all 0: forty ROUNDS", x.perform(0), 40);
        due("the last TRAY, the last sort", x.numbers(3, 3, 40), 0);
        due("64 bits", x.write(3, 39, Long.MAX_VALUE), Long.MAX_VALUE);
    }

    // Promise 37: "-2: no such TRAY, sort; -3, and the TRAY stays: n is below 0 or above 40."
    static void numbersRefuses() {
        CoachWaits x = on(PAIR);
        put(x, 0, 1, 109, 0);
        refused(x, -2, y -> y.numbers(-1, 0, 1), y -> y.numbers(4, 0, 1), y -> y.numbers(MOST, 0, 1), y -> y.numbers(LEAST, 0, 1),
            y -> y.numbers(0, -1, 1), y -> y.numbers(0, 4, 1), y -> y.numbers(0, MOST, 1), y -> y.numbers(0, LEAST, 1),
            y -> y.numbers(0, 4, 41), y -> y.numbers(4, 0, -1));
        refused(x, -3, y -> y.numbers(0, 0, -1), y -> y.numbers(0, 0, 41), y -> y.numbers(0, 3, MOST), y -> y.numbers(0, 3, LEAST),
            y -> y.numbers(1, 0, 41));
        due("the TRAY stays", x.judge(0, 2), 18);
        due("of its sort", x.write(0, 0, 32768), -32768);
        due("a MISSING one stays MISSING", x.judge(1, 0), -6);
    }

    // Promise 38: "Number i of a TRAY is v, cut to its sort: as it is there."
    static void writeCutToItsSort() {
        CoachWaits x = new CoachWaits();
        long[][] cut = {{0, 127, 127}, {0, 128, -128}, {0, 255, -1}, {0, 256, 0}, {0, -129, 127}, {1, 32767, 32767}, {1, 32768, -32768},
            {1, 65536, 0}, {1, -32769, 32767}, {2, MOST, MOST}, {2, 1L << 31, LEAST}, {2, 1L << 32, 0}, {2, LEAST - 1L, MOST},
            {3, Long.MAX_VALUE, Long.MAX_VALUE}, {3, Long.MIN_VALUE, Long.MIN_VALUE}, {0, Long.MIN_VALUE, 0}, {0, Long.MAX_VALUE, -1}};
        for (long[] one : cut) {
            x.numbers(0, (int) one[0], 1);
            due("sort " + one[0] + " of " + one[1], x.write(0, 0, one[1]), one[2]);
        }
        x.numbers(0, 0, 1);
        x.write(0, 0, 256);
        due("256 is 0 there: a ROUND", x.perform(0), 1);
    }

    // Promise 38: "-2: no such TRAY; -6; -7."
    static void writeRefuses() {
        CoachWaits x = on(PAIR);
        put(x, 0, 1, 109, 0);
        x.numbers(2, 0, 0);
        refused(x, -2, y -> y.write(-1, 0, 7), y -> y.write(4, 0, 7), y -> y.write(MOST, 0, 7), y -> y.write(LEAST, 0, 7), y -> y.write(4, -1, 7));
        refused(x, -6, y -> y.write(1, 0, 7), y -> y.write(3, 0, 7), y -> y.write(1, -1, 7), y -> y.write(1, 40, 7));
        refused(x, -7, y -> y.write(0, -1, 7), y -> y.write(0, 2, 7), y -> y.write(0, 40, 7), y -> y.write(0, MOST, 7), y -> y.write(0, LEAST, 7),
            y -> y.write(2, 0, 7));
        due("the last number", x.write(0, 1, 7), 7);
    }

    // Promise 39: "How LATE a COACH is in ROUND 1, 2, 3 .. GOING comes into a TRAY, as many as it has places: how many."
    static void listsAsManyAsPlaces() {
        CoachWaits x = on("road period 10 mud 0;" + C + "wait 0 0 takes 11 lag 1;");
        x.numbers(0, 2, 40);
        due("forty", x.lists(0, 0), 40);
        // 1 to 10 can be DEEDS only if there are so many WAITS: the second can't.
        due("1 and then 2", x.judge(0, 0), 1);
        x.numbers(0, 2, 8);
        due("eight", x.lists(0, 0), 8);
        due("by MUD 0", x.muds(0, 0), 1);
        x.numbers(0, 2, 1);
        due("one", x.lists(0, 0), 1);
        x.numbers(0, 2, 0);
        due("none", x.lists(0, 0), 0);
        due("nothing is done", x.count(4) + x.count(7), 0);
    }

    // Promise 39: "How LATE a COACH is in ROUND 1, 2, 3 .. GOING comes into a TRAY"
    static void listsAreCutToTheSort() {
        CoachWaits x = on("road period 1 mud 0;" + C + "wait 0 0 takes 0 lag 1;takes:129;");
        put(x, 0, 0, 0);
        x.lists(0, 0);
        due("128 is below 0 in 8 bits", x.muds(0, 0), -3);
        put(x, 0, 1, 0);
        x.lists(0, 0);
        due("not in 16", x.muds(0, 0), 1023);
        x = on("road period 1 mud 0;" + C + "wait 0 0 takes 0 lag 1;takes:257;");
        put(x, 0, 0, 7);
        x.lists(0, 0);
        due("256 is 0 in 8 bits: a ROUND", x.judge(0, 0), -1);
    }

    // Promise 39: "-2: the TRAY, the COACH; -6."
    static void listsRefuses() {
        CoachWaits x = on(PAIR);
        put(x, 0, 1, 109, 0);
        refused(x, -2, y -> y.lists(-1, 0), y -> y.lists(4, 0), y -> y.lists(MOST, 0), y -> y.lists(LEAST, 0), y -> y.lists(0, -1),
            y -> y.lists(0, 2), y -> y.lists(0, MOST), y -> y.lists(0, LEAST), y -> y.lists(1, 2), y -> y.lists(4, 2));
        refused(x, -6, y -> y.lists(1, 0), y -> y.lists(3, 1));
        due("the TRAY stays", x.judge(0, 2), 18);
    }

    // Promise 40: "An IMAGE is made: 0. -2."
    static void imageZeroToOne() {
        CoachWaits x = on(PAIR);
        x.hold(0, 3);
        refused(x, -2, y -> y.image(-1), y -> y.image(2), y -> y.image(MOST), y -> y.image(LEAST));
        refused(x, -5, y -> y.restore(0), y -> y.restore(1));
        String ahead = stand(x);
        due("0", x.image(0), 0);
        due("1", x.image(1), 0);
        same("nothing else changes", stand(x), ahead);
        x.round(0);
        due("in place of another one", x.image(0), 0);
        x.restore(1);
        due("HELD still", x.coach(0, 4), 3);
        due("no ROUND yet", x.count(4), 0);
        x.restore(0);
        due("HELD no more", x.coach(0, 4), 0);
        due("one ROUND", x.count(4), 1);
        due("without a road", new CoachWaits().image(1), 0);
    }

    // Promise 41: "All that is in an IMAGE is as it was: 0. -2; -5: none was made."
    static void restoreNoneWasMade() {
        CoachWaits x = on(PAIR);
        x.hold(0, 8);
        x.round(0);
        x.hold(1, 2);
        x.mud(1);
        refused(x, -5, y -> y.restore(0), y -> y.restore(1));
        refused(x, -2, y -> y.restore(-1), y -> y.restore(2), y -> y.restore(MOST), y -> y.restore(LEAST));
        String ahead = stand(x);
        x.image(0);
        refused(x, -5, y -> y.restore(1));
        tell(x, FULL);
        x.rounds(9);
        due("back", x.restore(0), 0);
        same("as it was, but for what can be UNDONE", stand(x), ahead.replaceAll("^((?: count \\d+){7}) count 4", "$1 count 0"));
        due("again", x.restore(0), 0);
        x.image(1);
        due("now there is one", x.restore(1), 0);
        due("neither can be UNDONE", x.undo(1), -3);
    }

    // Promise 41: "All that is in an IMAGE is as it was: 0."
    static void restoreAnEmptyRoad() {
        CoachWaits x = new CoachWaits();
        x.round(0);
        x.mud(5);
        x.image(0);
        tell(x, PAIR);
        x.image(1);
        due("back to no road", x.restore(0), 0);
        due("no COACHES", x.count(0), 0);
        due("no LINES", x.count(9), 0);
        due("PERIOD 1", x.count(2), 1);
        due("MUD 5", x.count(3), 5);
        due("one ROUND", x.count(4), 1);
        due("and on to the other", x.restore(1), 0);
        due("two COACHES", x.count(0), 2);
        due("one RING", x.rings(), 1);
        due("MUD 0", x.count(3), 0);
        due("five LINES", x.count(9), 5);
    }

    // Promise 42: "NONE for others."
    static void countOfOthers() {
        CoachWaits x = on(PAIR);
        refused(x, -1, y -> y.count(-1), y -> y.count(10), y -> y.count(MOST), y -> y.count(LEAST));
    }

    // Promise 42: "0 COACHES, 1 WAITS, 2 PERIOD, 3 MUD, 4 ROUNDS, 5 how LATE all were together in the last ROUND, 6 who was, as bits, 7 calls
    // that can be UNDONE, 8 bytes on THE TAPE, 9 LINES."
    static void countFromEmptyToFull() {
        CoachWaits x = new CoachWaits();
        int[] empty = {0, 0, 1, 0, 0, 0, 0, 0, 0, 0};
        for (int i = 0; i < 10; i++) {
            due("empty, count(" + i + ")", x.count(i), empty[i]);
        }
        x = on("road period 99 mud 9;" + C.repeat(6) + "wait 0 0 takes 99 lag 1;wait 1 1 takes 99 lag 1;wait 2 2 takes 99 lag 1;"
            + "wait 3 3 takes 99 lag 1;wait 4 4 takes 99 lag 1;wait 5 5 takes 99 lag 1;" + "wait 0 0 takes 9 lag 1;".repeat(4) + "takes:999;");
        for (int i = 0; i < 12; i++) {
            x.rounds(99);
        }
        feed(x, " ".repeat(900));
        int[] full = {6, 10, 99, 9, 12 * 99, 600000, 63, 10, 900, 18};
        for (int i = 0; i < 10; i++) {
            due("full, count(" + i + ")", x.count(i), full[i]);
        }
    }
}
