/** Sentences of the document's Terms that name a boundary case: a test of its own for each, with the sentence as its remark. */
public final class BoundaryTermsTest extends Asking {

    private static final String W = "wait 0 0 takes 1 lag 1;";

    public static void main(String[] args) throws Exception {
        runAll(BoundaryTermsTest.class);
    }

    // ---- the text

    // What it is (promises 10, 18): "An object is used for at most 512 calls after it has been made"
    static void the512thCallAnswers() {
        CoachWaits x = new CoachWaits();
        feed(x, "road period 99 mud 0;coach at 99 patience 0;");
        x.road(44);
        for (int i = 5; i <= 510; i++) {
            x.rounds(99);
        }
        due("rounds made by 506 calls", x.count(4), 506 * 99);
        due("the 512th call", x.sets(0, 999), (506 * 99 + 999) * 99 + 99);
    }

    // Terms (promise 1): "(without one: PERIOD 1, MUD 0, no COACHES, no WAITS)"
    static void withoutARoad() {
        CoachWaits x = new CoachWaits();
        due("PERIOD", x.count(2), 1);
        due("MUD", x.count(3), 0);
        due("COACHES", x.count(0), 0);
        due("WAITS", x.count(1), 0);
        due("no COACH 0", x.coach(0, 0), -2);
        due("no WAIT 0", x.waiting(0, 0), -2);
    }

    // Terms (promise 3): "THE ROAD is a TEXT of at most 900 bytes"
    static void aTextOf900Bytes() {
        String text = R + "takes:7;".repeat(109) + "takes:8;";
        due("its length", text.length(), 900);
        sound(text, 111);
        faulty(text.substring(0, 899) + " ", 2, 900);
        faulty(text.substring(0, 899) + "?", 1, 899);
        CoachWaits x = on("road period 9 mud 0;" + C + W + " ".repeat(900 - 20 - 22 - 23 - 8) + "takes:8;");
        due("the last LINE of 900 bytes", x.waiting(0, 3), 8);
        due("the last LINE of 900 bytes", x.count(9), 4);
        String ones = "takes:" + "1+".repeat(413) + "1; ";
        for (int i = 0; i < 3; i++) {
            due("900 bytes, again and again", tell(x, "road period 9 mud 0;" + C + W + ones), 4);
            due("all of one law", x.waiting(0, 3), 414);
        }
    }

    // Terms (promise 3): "{ LINE ; }"
    static void noLinesAtAll() {
        sound(R, 1);
        faulty(R + ";", 2, 20);
        faulty(R.substring(0, 19), 2, 19);
    }

    // Terms (promise 3): "At most six of not [ ( if within one another."
    static void sixWithinOneAnother() {
        sound(R + "takes:((((((1))))));", 2);
        sound(R + "waits:[[[[[[1=1]]]]]];", 2);
        sound(R + "waits:not not not not not not 1=1;", 2);
        sound(R + "takes:" + "if 1=1 then ".repeat(6) + "1" + " else 1 end".repeat(6) + ";", 2);
        sound(R + "takes:" + "if 1=1 then 1 else ".repeat(6) + "1" + " end".repeat(6) + ";", 2);
        sound(R + "takes:" + "if ".repeat(6) + "1" + "=1 then 1 else 1 end".repeat(6) + ";", 2);
        sound(R + "waits:not[(if not[1=1]then 1 else 1 end)=1];", 2);
    }

    // Terms (promise 3): "At most six of not [ ( if within one another."
    static void sideBySideAreNotWithinOneAnother() {
        sound(R + "takes:" + "((((((1))))))+".repeat(9) + "1;", 2);
        sound(R + "waits:" + "[[[[[[1=1]]]]]]and ".repeat(9) + "1=1;", 2);
        sound(R + "waits:not not not not not not 1=1 or not not not not not not 1=1;", 2);
        sound(R + "waits:not not not not not not 1=1 and((((((1))))))=1;", 2);
        String five = "(((((1)))))";
        sound(R + "takes:if " + five + "=" + five + " then " + five + " else " + five + " end;", 2);
        sound(R + "takes:((((((1))))));waits:((((((1))))))=((((((1))))));", 3);
    }

    // Terms (promise 4): "4 the first TOKEN of a 7th coach, an 11th wait; a seventh of not [ ( if."
    static void aSeventhWithin() {
        faulty(R + "takes:(((((((1)))))));", 4, 32);
        faulty(R + "waits:[[[[[[[1=1]]]]]]];", 4, 32);
        faulty(R + "waits:" + "not ".repeat(7) + "1=1;", 4, 50);
        faulty(R + "takes:" + "if 1=1 then ".repeat(6) + "if", 4, 26 + 72);
        faulty(R + "takes:" + "if 1=1 then 1 else ".repeat(6) + "if", 4, 26 + 114);
        faulty(R + "takes:" + "if ".repeat(7), 4, 26 + 18);
        String in = R + "waits:not[(if not[";
        faulty(in + "1=1]then 1 else 1 end)=1 and((((((1))))))=1];", 4, in.length() + 28 + 4);
        faulty(in + "not 1=1", 4, in.length());
        faulty(in + "[1=1", 4, in.length());
        faulty(in + "(1)=1", 4, in.length());
        faulty(in + "if 1=1", 4, in.length());
        faulty(in + "1=(", 4, in.length() + 2);
    }

    // Terms (promise 4): "4 the first TOKEN of a 7th coach, an 11th wait; a seventh of not [ ( if."
    static void aSeventhCoachAnEleventhWait() {
        faulty(R + C.repeat(6) + "coach", 4, 152);
        faulty(R + C.repeat(6) + " coach at 100", 4, 153);
        faulty(R + C.repeat(7), 4, 152);
        faulty(R + C + W.repeat(10) + "wait", 4, 42 + 230);
        faulty(R + C + W.repeat(10) + "\nwait 9 9 ", 4, 42 + 231);
        faulty(R + C + W.repeat(11), 4, 42 + 230);
        sound(R + C.repeat(6) + W.repeat(10), 17);
        sound(R + C.repeat(6) + W.repeat(10) + "takes:1;waits:1=1;", 19);
    }

    // Terms (promise 3): "road: the PERIOD, 1 to 99, the MUD, 0 to 9."
    static void periodOneToNinetyNine() {
        due("1", on("road period 1 mud 0;").count(2), 1);
        due("99", on("road period 99 mud 0;").count(2), 99);
        due("001", on("road period 001 mud 0;").count(2), 1);
        faulty("road period 0 mud 0;", 3, 12);
        faulty("road period 000 mud 0;", 3, 12);
        faulty("road period 100 mud 0;", 3, 12);
        faulty("road period 999 mud 0;", 3, 12);
    }

    // Terms (promise 3): "road: the PERIOD, 1 to 99, the MUD, 0 to 9."
    static void mudZeroToNine() {
        due("0", on("road period 1 mud 0;").count(3), 0);
        due("9", on("road period 1 mud 9;").count(3), 9);
        due("009", on("road period 1 mud 009;").count(3), 9);
        faulty("road period 1 mud 10;", 3, 18);
        faulty("road period 1 mud 999;", 3, 18);
    }

    // Terms (promises 3, 5): "coach: its planned HOUR in a ROUND, 0 to 99, its patience, 0 to 99; numbered from 0 on, 6 at most."
    static void hourZeroToNinetyNine() {
        due("0", on(R + "coach at 0 patience 1;").coach(0, 0), 0);
        due("99", on(R + "coach at 99 patience 1;").coach(0, 0), 99);
        faulty(R + "coach at 100 patience 1;", 3, 29);
        faulty(R + "coach at 999 patience 1;", 3, 29);
    }

    // Terms (promises 3, 5): "coach: its planned HOUR in a ROUND, 0 to 99, its patience, 0 to 99; numbered from 0 on, 6 at most."
    static void patienceZeroToNinetyNine() {
        due("0", on(R + "coach at 1 patience 0;").coach(0, 1), 0);
        due("99", on(R + "coach at 1 patience 99;").coach(0, 1), 99);
        faulty(R + "coach at 1 patience 100;", 3, 40);
        faulty(R + "coach at 1 patience 999;", 3, 40);
    }

    // Terms (promises 3, 5): "numbered from 0 on, 6 at most."
    static void sixCoachesAtMost() {
        StringBuilder text = new StringBuilder(R);
        for (int c = 0; c < 6; c++) {
            text.append("coach at ").append(10 + c).append(" patience ").append(90 - c).append(';');
        }
        CoachWaits x = on(text.toString());
        due("COACHES", x.count(0), 6);
        for (int c = 0; c < 6; c++) {
            due("HOUR of " + c, x.coach(c, 0), 10 + c);
            due("patience of " + c, x.coach(c, 1), 90 - c);
        }
        due("no 7th", x.coach(6, 0), -2);
        faulty(text + "coach at 1 patience 1;", 4, text.length());
    }

    // Terms (promise 3): "wait: for whom (FROM), who (TO) waits, COACHES told ahead"
    static void onlyCoachesToldAhead() {
        faulty(R + "wait 0 0 takes 1 lag 1;", 3, 25);
        faulty(R + "wait 0 0 takes 1 lag 1;" + C, 3, 25);
        faulty(R + C + "wait 1 0 takes 1 lag 1;" + C, 3, 47);
        faulty(R + C + "wait 0 1 takes 1 lag 1;" + C, 3, 49);
        faulty(R + C.repeat(6) + "wait 6 0 takes 1 lag 1;", 3, 157);
        faulty(R + C.repeat(6) + "wait 0 6 takes 1 lag 1;", 3, 159);
        faulty(R + C.repeat(6) + "wait 999 0 takes 1 lag 1;", 3, 157);
        CoachWaits x = on(R + C.repeat(6) + "wait 5 0 takes 1 lag 1;wait 0 5 takes 1 lag 1;");
        due("the last COACH as FROM", x.waiting(0, 0), 5);
        due("the last COACH as TO", x.waiting(1, 1), 5);
        sound(R + C + "wait 0 0 takes 1 lag 1;" + C + "wait 1 0 takes 1 lag 1;", 5);
    }

    // Terms (promise 3): "(one and the same, too, but not with lag 0; with lag 0 FROM must be the lesser)"
    static void withLagZeroFromIsTheLesser() {
        String two = R + C + C;
        sound(two + "wait 0 1 takes 1 lag 0;", 4);
        faulty(two + "wait 1 0 takes 1 lag 0;", 3, 85);
        faulty(two + "wait 0 0 takes 1 lag 0;", 3, 85);
        faulty(two + "wait 1 1 takes 1 lag 0;", 3, 85);
        sound(two + "wait 1 1 takes 1 lag 1;wait 0 0 takes 1 lag 2;", 5);
        sound(two + "wait 1 0 takes 1 lag 1;wait 1 0 takes 1 lag 2;", 5);
        sound(two + "wait 0 1 takes 1 lag 1;wait 0 1 takes 1 lag 2;", 5);
    }

    // Terms (promises 3, 6): "how long FROM is under way, 0 to 99"
    static void takesZeroToNinetyNine() {
        CoachWaits x = on("road period 1 mud 0;" + C + "wait 0 0 takes 0 lag 1;wait 0 0 takes 99 lag 1;");
        due("0", x.waiting(0, 3), 0);
        due("99", x.waiting(1, 3), 99);
        faulty(R + C + "wait 0 0 takes 100 lag 1;", 3, 57);
        faulty(R + C + "wait 0 0 takes 999 lag 1;", 3, 57);
    }

    // Terms (promises 3, 6): "lag: from how many ROUNDS ahead, 0 to 2"
    static void lagZeroToTwo() {
        CoachWaits x = on(R + C + C + "wait 0 1 takes 1 lag 0;wait 0 1 takes 1 lag 1;wait 0 1 takes 1 lag 2;");
        for (int lag = 0; lag < 3; lag++) {
            due("lag " + lag, x.waiting(lag, 2), lag);
        }
        faulty(R + C + C + "wait 0 1 takes 1 lag 3;", 3, 85);
        faulty(R + C + C + "wait 1 0 takes 1 lag 3;", 3, 85);
        faulty(R + C + C + "wait 0 1 takes 1 lag 999;", 3, 85);
    }

    // Terms (promises 3, 6): "numbered from 0 on, 10 at most."
    static void tenWaitsAtMost() {
        StringBuilder text = new StringBuilder("road period 1 mud 0;" + C);
        for (int w = 0; w < 10; w++) {
            text.append("wait 0 0 takes ").append(50 + w).append(" lag 1;");
        }
        CoachWaits x = on(text.toString());
        due("WAITS", x.count(1), 10);
        for (int w = 0; w < 10; w++) {
            due("TIME of " + w, x.waiting(w, 3), 50 + w);
        }
        due("no 11th", x.waiting(10, 0), -2);
        faulty(text + W, 4, text.length());
    }

    // Terms (promise 3): "Later ones of takes, waits strike."
    static void laterLawsStrike() {
        String road = "road period 9 mud 0;" + C + C + "wait 0 1 takes 4 lag 0;";
        CoachWaits x = on(road + "takes:5;takes:6;takes:7;");
        due("the last takes", x.waiting(0, 3), 7);
        x = on("road period 9 mud 0;takes:5;" + C + C + "wait 0 1 takes 4 lag 0;");
        due("a takes told ahead of the WAIT", x.waiting(0, 3), 5);
        due("the last waits doesn't hold", on(road + "waits:1=1;waits:1=2;").by(0, 1), 0);
        due("the last waits holds", on(road + "waits:1=2;waits:1=1;").by(0, 1), 4);
        due("another takes between", on(road + "waits:1=2;takes:5;waits:1=1;takes:3;").by(0, 1), 3);
    }

    // Terms (promise 3): "TOKENS, as long as they go on, between them blanks (10, 32)"
    static void asLongAsTheyGoOn() {
        faulty("roadperiod 1 mud 1;", 2, 0);
        faulty("road period 1 mud 1;coachat 0 patience 0;", 2, 20);
        faulty(R + C + "waits 0 0 takes 1 lag 1;", 2, 48);
        faulty(R + "take s:1;", 2, 20);
        faulty("road period 1 2 mud 1;", 2, 14);
        sound("road period1mud1;coach at0patience0;wait 0 0takes1lag1;takes:1+if 1=1then 2else 3end*4;", 4);
        CoachWaits x = on("road period12mud3;coach at45patience67;");
        due("12 is one N", x.count(2), 12);
        due("45 is one N", x.coach(0, 0), 45);
        due("67 is one N", x.coach(0, 1), 67);
    }

    // Terms (promise 3): "words (small letters)"
    static void wordsToTheLetter() {
        String text = "road period 9 mud 8;coach at 1 patience 2;wait 0 0 takes 1 lag 1;takes:if from=to then mud else time end;"
            + "waits:not late<9 and 1>0 or patience=1;";
        sound(text, 5);
        int words = 0;
        for (int i = 0; i < text.length(); i++) {
            boolean letter = Character.isLowerCase(text.charAt(i));
            int start = i;
            while (letter && start > 0 && Character.isLowerCase(text.charAt(start - 1))) {
                start--;
            }
            if (letter) {
                if (start == i) {
                    words++;
                    faulty(text.substring(0, i) + Character.toUpperCase(text.charAt(i)) + text.substring(i + 1), 1, i);
                }
                faulty(text.substring(0, i) + 'q' + text.substring(i + 1), 2, start);
                faulty(text.substring(0, i) + 'q' + text.substring(i), 2, start);
            }
        }
        due("words", words, 24);
    }

    // Terms (promise 3): "between them blanks (10, 32)"
    static void blanksAreTenAndThirtyTwo() {
        sound(" \n \nroad\nperiod\n\n1   mud 1\n;\n \n", 1);
        for (int b = 0; b < 256; b++) {
            String text = "road" + (char) b + "period 1 mud 1;";
            if (b == 10 || b == 32) {
                sound(text, 1);
            } else if (b < 'a' || b > 'z') {
                faulty(text, isToken(b) ? 2 : 1, 4);
            } else {
                faulty(text, 2, 0);
            }
        }
    }

    private static boolean isToken(int b) {
        return b >= 'a' && b <= 'z' || b >= '0' && b <= '9' || ";:+-*()[]=<>".indexOf(b) >= 0;
    }

    // Terms (promise 4): "words (small letters), N (1 to 3 digits), the signs ; : + - * ( ) [ ] = < >.", "1 no TOKEN begins so"
    static void whatBeginsATokenByItself() {
        for (int b = 0; b < 256; b++) {
            boolean blank = b == 10 || b == 32;
            faulty(String.valueOf((char) b), blank || isToken(b) ? 2 : 1, blank ? 1 : 0);
            if (!blank) {
                faulty(R + (char) b, isToken(b) ? 2 : 1, 20);
            }
        }
    }

    // Terms (promise 3): "words (small letters), N (1 to 3 digits)"
    static void oneToThreeDigits() {
        due("one", on("road period 7 mud 0;").count(2), 7);
        due("two", on("road period 07 mud 0;").count(2), 7);
        due("three", on("road period 007 mud 0;").count(2), 7);
        faulty("road period 0007 mud 0;", 1, 12);
        faulty("road period 00000000000000000007 mud 0;", 1, 12);
        CoachWaits x = on("road period 1 mud 0;" + C + W + "takes:999;");
        due("999", x.waiting(0, 3), 999);
        faulty(R + C + W + "takes:1000;", 1, 71);
        faulty(R + C + W + "takes:1+1000;", 1, 73);
    }

    // Terms (promise 4): "FAULTS, the first along the text"
    static void theFirstFaultAlongTheText() {
        faulty("road period 0 mud 1000;", 3, 12);
        faulty("road period mud ?", 2, 12);
        faulty(R + C.repeat(7) + "?", 4, 152);
        faulty(R + C + "wait 1 1 takes 100 lag 3;", 3, 47);
        faulty(R + "takes:late;takes:?", 2, 26);
        faulty(R + "takes:(((((((?", 4, 32);
        faulty(R + "x ?", 2, 20);
    }

    // Terms (promise 4): "of one TOKEN the least kind"
    static void ofOneTokenTheLeastKind() {
        faulty("road period 1000 mud 0;", 1, 12);
        faulty("road 1000", 1, 5);
        faulty("road 100", 2, 5);
        faulty("road period 1 mud 1 100", 2, 20);
        faulty(R + C.repeat(6).substring(0, 131) + " coach at 0 patience 0;", 2, 152);
        faulty(R + C.repeat(6) + "wait coach", 2, 157);
        faulty(R + C + W.repeat(10) + "takes:wait", 2, 42 + 236);
        faulty(R + "takes:((((((not 1=1", 2, 32);
        faulty(R + "takes:(((((([1=1", 2, 32);
        faulty(R + "takes:((((((1(", 2, 33);
        faulty(R + "takes:((((((1 if", 2, 34);
        faulty(R + "waits:[[[[[[1=not", 2, 34);
        faulty(R + "waits:[[[[[[1=[", 2, 34);
        faulty(R + "waits:[[[[[[1=1 not", 2, 36);
        faulty(R + "waits:[[[[[[1=1[", 2, 35);
    }

    // Terms (promise 4): "1 no TOKEN begins so (4 digits and more: at their first)"
    static void fourDigitsAtTheirFirst() {
        faulty("1234", 1, 0);
        faulty("  1234", 1, 2);
        faulty("road period 12345 mud 0;", 1, 12);
        faulty("road period 1 mud 0000;", 1, 18);
        faulty("road period 1 mud 0;takes:1111", 1, 26);
        faulty("road" + "1".repeat(896), 1, 4);
    }

    // Terms (promise 4): "2 it can't stand there (the end: the text's length"
    static void theEndIsAtTheTextsLength() {
        String text = "road period 9 mud 8 ; coach at 1 patience 2 ; wait 0 0 takes 1 lag 1 ; takes : ( time + 1 ) * if 1 = 1"
            + " then 2 else 3 end - mud ; waits : not [ late < 9 and patience > 0 or 1 = 1 ] ; ";
        int lines = 0;
        for (int n = 0; n < text.length(); n++) {
            if (text.charAt(n) == ' ') {
                if (text.charAt(n - 1) == ';') {
                    lines++;
                    sound(text.substring(0, n), lines);
                    sound(text.substring(0, n + 1), lines);
                } else {
                    faulty(text.substring(0, n), 2, n);
                    faulty(text.substring(0, n + 1), 2, n + 1);
                }
            }
        }
        due("LINES", lines, 5);
        faulty("", 2, 0);
        faulty(" \n ", 2, 3);
    }

    // Terms (promise 4): "2 it can't stand there"
    static void whatCantStandThere() {
        faulty(R + "waits:1;", 2, 27);
        faulty(R + "waits:1+1)=1;", 2, 29);
        faulty(R + "waits:1=1=1;", 2, 29);
        faulty(R + "waits:not;", 2, 29);
        faulty(R + "waits:[1];", 2, 28);
        faulty(R + "waits:(1=1);", 2, 28);
        faulty(R + "waits:;", 2, 26);
        faulty(R + "takes:;", 2, 26);
        faulty(R + "takes:1=1;", 2, 27);
        faulty(R + "takes:-1;", 2, 26);
        faulty(R + "takes:1*;", 2, 28);
        faulty(R + "takes:1+-1;", 2, 28);
        faulty(R + "takes:();", 2, 27);
        faulty(R + "takes:x;", 2, 26);
        faulty(R + "takes 1;", 2, 26);
        faulty(R + "takes:if 1=1 then 1 end;", 2, 40);
        faulty(R + "takes:if 1 then 1 else 1 end;", 2, 31);
        faulty(R + "takes:if 1=1 then 1=1 else 1 end;", 2, 39);
        faulty(R + "takes:1 end;", 2, 28);
        faulty(R + "coach at patience 1;", 2, 29);
        faulty(R + C + "wait 0 takes 1 lag 1;", 2, 49);
    }

    // Terms (promise 4): "road must be told first, and once"
    static void roadFirstAndOnce() {
        faulty(C + R, 2, 0);
        faulty("takes:1;" + R, 2, 0);
        faulty(";" + R, 2, 0);
        faulty(R + R, 2, 20);
        faulty(R + C + R, 2, 42);
        faulty(R + "takes:road;", 2, 26);
    }

    // Terms (promise 4): "a word of the other law"
    static void wordsOfTheOtherLaw() {
        sound(R + "takes:time+mud+from+to;waits:late=patience+mud+from+to;", 3);
        faulty(R + "takes:late;", 2, 26);
        faulty(R + "takes:patience;", 2, 26);
        faulty(R + "waits:time=1;", 2, 26);
        faulty(R + "waits:1=time;", 2, 28);
        faulty(R + "takes:if late=1 then 1 else 1 end;", 2, 29);
        faulty(R + "takes:if 1=1 then patience else 1 end;", 2, 38);
        faulty(R + "waits:if 1=1 then 1 else time end=1;", 2, 45);
        faulty(R + "waits:late=1;takes:late;", 2, 39);
        faulty(R + "takes:time;waits:time=1;", 2, 37);
    }

    // Terms (promise 4): "3 an N out of its bounds (a lag of 0, if FROM isn't lesser)"
    static void aLagOfZeroOutOfBounds() {
        faulty(R + C + "wait 0 0 takes 1 lag 00;", 3, 63);
        faulty(R + C + "wait 0 0 takes 1 lag 000;", 3, 63);
        faulty(R + C + "wait 0 0 takes 1 lag 0", 3, 63);
        faulty(R + C + "wait 0 0 takes 1 lag", 2, 62);
        faulty(R + C + "wait 0 0 takes 1 lag;", 2, 62);
    }

    // ---- rounds

    private static int timeBy(String law) {
        return on("road period 9 mud 3;" + C + W + "takes:" + law + ";").waiting(0, 3);
    }

    // Terms (promise 6): "TIME of a WAIT: what the law takes tells, 0 at least, 999 at most"
    static void timeZeroAtLeast() {
        due("-1", timeBy("0-1"), 0);
        due("-1000000", timeBy("(0-999)*999*999"), 0);
        due("0", timeBy("0"), 0);
        due("1", timeBy("2-1"), 1);
        CoachWaits x = on("road period 9 mud 0;coach at 9 patience 0;coach at 0 patience 0;wait 0 1 takes 0 lag 0;takes:0-5;");
        due("a TIME below 0 doesn't bring it in ahead", x.by(0, 1), 9);
    }

    // Terms (promise 6): "TIME of a WAIT: what the law takes tells, 0 at least, 999 at most"
    static void time999AtMost() {
        due("998", timeBy("998"), 998);
        due("999", timeBy("999"), 999);
        due("1000", timeBy("999+1"), 999);
        due("1000000", timeBy("999*999*999"), 999);
        due("as LATE as a TIME of 999 tells", on("road period 9 mud 0;" + C + W + "takes:999+9;").by(0, 0), 990);
    }

    // Terms (promise 6): "(without one: as told and the MUD)"
    static void timeWithoutALaw() {
        CoachWaits x = on("road period 9 mud 0;" + C + "wait 0 0 takes 0 lag 1;wait 0 0 takes 99 lag 1;");
        due("0 and 0", x.waiting(0, 3), 0);
        due("99 and 0", x.waiting(1, 3), 99);
        x.mud(9);
        due("0 and 9", x.waiting(0, 3), 9);
        due("99 and 9", x.waiting(1, 3), 108);
        due("LATE by it", x.by(0, 0), 99);
    }

    // Terms (promise 18): "In ROUND k (1 and more) each COACH sets out", "at its planned time (k times the PERIOD and its HOUR), or later"
    static void theFirstRoundIsOne() {
        CoachWaits x = on("road period 99 mud 0;coach at 99 patience 0;");
        due("ROUND 1", x.sets(0, 1), 198);
        due("ROUND 2", x.sets(0, 2), 297);
        x.round(0);
        due("ROUND 2", x.sets(0, 1), 297);
    }

    // Terms (promise 7): "it is as LATE as the greatest of these tells, 0 at least"
    static void lateZeroAtLeast() {
        CoachWaits x = on("road period 99 mud 0;coach at 0 patience 0;coach at 99 patience 0;wait 0 1 takes 0 lag 2;");
        due("it comes in 297 ahead", x.by(0, 1), 0);
        x.hold(1, 4);
        due("and HELD", x.by(0, 1), 4);
        x = on("road period 9 mud 0;" + C + C + "wait 0 1 takes 4 lag 0;wait 0 1 takes 6 lag 0;wait 0 1 takes 5 lag 0;");
        due("the greatest", x.by(0, 1), 6);
        due("no WAITS", x.by(0, 0), 0);
    }

    // Terms (promise 17): "In ROUND 0 and all ahead all set out as planned."
    static void aheadOfRoundOneAllIsPlanned() {
        CoachWaits x = on("road period 10 mud 0;" + C + "wait 0 0 takes 25 lag 2;");
        due("ROUND 1 waits for ROUND -1", x.late(0, 1), 5);
        due("ROUND 2 waits for ROUND 0", x.late(0, 2), 5);
        due("ROUND 3 waits for ROUND 1", x.late(0, 3), 10);
        x = on("road period 10 mud 0;" + C + "wait 0 0 takes 15 lag 1;");
        due("ROUND 1 waits for ROUND 0", x.late(0, 1), 5);
        due("ROUND 2 waits for ROUND 1", x.late(0, 2), 10);
        due("in the last ROUND, none yet", x.coach(0, 2), 0);
        due("in the one ahead of that, none yet", x.coach(0, 3), 0);
    }

    // Terms (promise 8): "A WAIT that would make it LATE (1 at least) is kept"
    static void lateOneAtLeast() {
        CoachWaits x = on("road period 9 mud 0;" + C + C + "wait 0 1 takes 0 lag 0;");
        due("by 0", x.by(0, 1), 0);
        due("by 0: for none", x.forWhich(0, 1), -1);
        x.mud(1);
        due("by 1", x.by(0, 1), 1);
        due("by 1: for it", x.forWhich(0, 1), 0);
        x = on("road period 9 mud 0;" + C + "coach at 1 patience 0;wait 0 1 takes 0 lag 0;");
        due("by 1 less than 0", x.forWhich(0, 1), -1);
    }

    // Terms (promise 7): "if the law waits holds (without one: always)"
    static void keptIfTheLawHolds() {
        String road = "road period 9 mud 0;" + C + "coach at 0 patience 5;wait 0 1 takes 5 lag 0;";
        due("without a law", on(road).by(0, 1), 5);
        due("late is just patience", on(road + "waits:late<patience;").by(0, 1), 0);
        due("late is just patience", on(road + "waits:late<patience+1;").by(0, 1), 5);
        due("late is just patience", on(road + "waits:late=patience;").by(0, 1), 5);
        due("late is just patience", on(road + "waits:late>patience;").by(0, 1), 0);
        due("late is just patience", on(road + "waits:late>patience-1;").by(0, 1), 5);
        due("never", on(road + "waits:0=1;").forWhich(0, 1), -1);
    }

    // Terms (promises 7, 17): "In waits late: how LATE that WAIT alone would make it; patience: TO's."
    static void theLawByLatenessFarApart() {
        // COACH 0 is later by 64 more in each ROUND; 1 waits for it as long as the law holds, whatever was asked ahead.
        String road = "road period 1 mud 0;" + C + C + "wait 0 0 takes 65 lag 1;wait 0 1 takes 0 lag 0;takes:time;waits:to=0 or ";
        int[] edges = {64, 65, 128, 129, 192, 193, 320, 640, 641};
        for (int edge : edges) {
            CoachWaits below = on(road + "late<" + edge + ";");
            CoachWaits above = on(road + "late>" + edge + ";");
            for (int i = 0; i < 100; i++) {
                lateByLaw(below, 1 + i / 10, edge, true);
                lateByLaw(below, 1 + i % 10, edge, true);
                lateByLaw(above, 1 + i / 10, edge, false);
                lateByLaw(above, 1 + i % 10, edge, false);
            }
        }
    }

    private static void lateByLaw(CoachWaits x, int k, int edge, boolean below) {
        int late = 64 * k;
        boolean kept = below ? late < edge : late > edge;
        due(late + (below ? " below " : " above ") + edge, x.late(1, k), kept ? late : 0);
    }

    // Terms (promise 9): "and it isn't left OUT in that ROUND."
    static void leftOutInThatRoundAlone() {
        CoachWaits x = on(GROWS);
        x.round(0);
        due("left OUT", x.round(1), 0);
        due("kept again", x.round(0), 1);
        due("by 3 again", x.coach(0, 2), 3);
        x = on(FULL);
        x.mud(9);
        x.hold(0, 9);
        x.rounds(1);
        due("the tenth left OUT alone helps nothing", x.by(10, 0), x.by(0, 0));
    }

    // Terms (promise 6): "TRUTH: BOTH { or BOTH }; BOTH: UNIT { and UNIT }; UNIT: not UNIT, [ TRUTH ], or SUM, one of = < >, SUM."
    static void comparedJustAtTheEdge() {
        String[] units = {"0<1", "1<1", "2<1", "0>1", "1>1", "2>1", "0=1", "1=1", "2=1"};
        boolean[] hold = {true, false, false, false, false, true, false, true, false};
        for (int i = 0; i < units.length; i++) {
            due(units[i], timeBy("if " + units[i] + " then 1 else 0 end"), hold[i] ? 1 : 0);
            due("not " + units[i], timeBy("if not " + units[i] + " then 1 else 0 end"), hold[i] ? 0 : 1);
            for (int j = 0; j < units.length; j++) {
                due(units[i] + " and " + units[j], timeBy("if " + units[i] + " and " + units[j] + " then 1 else 0 end"), hold[i] && hold[j] ? 1 : 0);
                due(units[i] + " or " + units[j], timeBy("if " + units[i] + " or " + units[j] + " then 1 else 0 end"), hold[i] || hold[j] ? 1 : 0);
            }
        }
        due("from and to at 0", timeBy("if from=0 and to=0 then 1 else 0 end"), 1);
    }

    // Terms (promise 7): "if the law waits holds (without one: always)"
    static void theLawByEachMud() {
        String road = "road period 9 mud 0;" + C + C + "wait 0 1 takes 4 lag 0;takes:time;waits:";
        CoachWaits always = on(road + "1=1;");
        CoachWaits below = on(road + "mud<5;");
        CoachWaits just = on(road + "mud=9;");
        for (int m = 0; m < 10; m++) {
            always.mud(m);
            below.mud(m);
            just.mud(m);
            due("always, MUD " + m, always.by(0, 1), 4);
            due("below 5, MUD " + m, below.by(0, 1), m < 5 ? 4 : 0);
            due("just 9, MUD " + m, just.by(0, 1), m == 9 ? 4 : 0);
        }
        for (int m = 9; m >= 0; m--) {
            below.mud(m);
            due("below 5, MUD " + m + " again", below.by(0, 1), m < 5 ? 4 : 0);
        }
    }

    private static final String TO_ONE = "-999*999-999-999";
    private static final String UP_TO_ONE = "+999*999+999+999+2";

    // Terms (promise 6): "Each + - * is kept from -1,000,000 to 1,000,000"
    static void sumsUpToAMillion() {
        due("999999", timeBy("999*999+999+999" + TO_ONE), 0);
        due("1000000", timeBy("999*999+999+999+1" + TO_ONE), 1);
        due("1000001", timeBy("999*999+999+999+2" + TO_ONE), 1);
        due("1000999", timeBy("999*999+999+999+999" + TO_ONE), 1);
        due("each, not the last alone", timeBy("999*999+999+999+9-9" + TO_ONE + "+9"), 1);
        due("two millions", timeBy("(999*999*9+999*999*9)" + TO_ONE), 1);
        due("less what is below 0", timeBy("(999*999-(0-999*999))" + TO_ONE), 1);
    }

    // Terms (promise 6): "Each + - * is kept from -1,000,000 to 1,000,000"
    static void sumsDownToAMillionBelowZero() {
        due("-999999", timeBy("(0-999*999-999-999)" + UP_TO_ONE), 2);
        due("-1000000", timeBy("(0-999*999-999-999-1)" + UP_TO_ONE), 1);
        due("-1000001", timeBy("(0-999*999-999-999-2)" + UP_TO_ONE), 1);
        due("-1000999", timeBy("(0-999*999-999-999-999)" + UP_TO_ONE), 1);
        due("two millions below", timeBy("((0-999*999)+(0-999*999))" + UP_TO_ONE), 1);
    }

    // Terms (promise 6): "Each + - * is kept from -1,000,000 to 1,000,000"
    static void productsUpToAMillion() {
        due("just 1000000", timeBy("(999+1)*(999+1)" + TO_ONE), 1);
        due("1001000", timeBy("(999+2)*(999+1)" + TO_ONE), 1);
        due("999000", timeBy("999*(999+1)-999*999-999"), 0);
        due("999000", timeBy("999*(999+1)-999*999-998"), 1);
        due("-1000000", timeBy("(0-999-1)*(999+1)" + UP_TO_ONE), 1);
        due("-1001000", timeBy("(0-999-2)*(999+1)" + UP_TO_ONE), 1);
        due("from the left, each cut", timeBy("999*999*999*0+7"), 7);
    }

    // Terms (promise 6): "Each + - * is kept from -1,000,000 to 1,000,000"
    static void productsBeyondAnInt() {
        due("2 to the 32nd", timeBy("(256*256)*(256*256)" + TO_ONE), 1);
        due("2 to the 31st", timeBy("(256*256)*(256*128)" + TO_ONE), 1);
        due("a million times a million", timeBy("(999*999*9)*(999*999*9)" + TO_ONE), 1);
        due("below 0 by above", timeBy("((0-999*9)*999)*(999*999*9)" + UP_TO_ONE), 1);
        due("below 0 by below", timeBy("((0-999*9)*999)*((0-999*9)*999)" + TO_ONE), 1);
    }

    private static final String FAR = "road period 1 mud 0;" + C + "wait 0 0 takes 0 lag 1;"
        + "takes:if mud=0 then 999 else if mud=9 then 0 else 199+mud end end;";

    /** 100 ROUNDS, each 998 later: 99,800. */
    private static CoachWaits farLate(String more) {
        CoachWaits x = on(FAR + more);
        x.rounds(99);
        x.rounds(1);
        due("LATE by 99800", x.coach(0, 2), 99800);
        return x;
    }

    // Terms (promise 7): "LATE is 100,000 at most"
    static void late100000AtMost() {
        CoachWaits x = farLate("");
        x.mud(1);
        due("99999", x.by(0, 0), 99999);
        x.mud(2);
        due("100000", x.by(0, 0), 100000);
        x.mud(3);
        due("100001 is cut", x.by(0, 0), 100000);
        x.mud(0);
        due("100798 is cut", x.by(0, 0), 100000);
        due("going on", x.late(0, 999), 100000);
        x.rounds(99);
        due("it stays so", x.count(5), 100000);
    }

    // Terms (promise 7): "cut when all this, HELD too, was reckoned for a COACH"
    static void heldTooIsCut() {
        CoachWaits x = farLate("");
        x.mud(1);
        x.hold(0, 1);
        due("99999 and HELD by 1", x.by(0, 0), 100000);
        x.hold(0, 2);
        due("99999 and HELD by 2", x.by(0, 0), 100000);
        x.hold(0, 9);
        x.round(0);
        due("the ROUND itself", x.coach(0, 2), 100000);
        x.mud(9);
        due("the next ROUND goes on from what was cut", x.by(0, 0), 99999);
    }

    private static final String TWO_MORE = C + "wait 0 1 takes 5 lag 0;wait 0 1 takes 7 lag 0;";

    private static CoachWaits cutAhead(String law) {
        CoachWaits x = on("road period 1 mud 0;" + C + "wait 0 0 takes 0 lag 1;" + TWO_MORE
            + "takes:if to=0 then 999 else time end;" + law);
        x.rounds(99);
        x.rounds(9);
        due("0 is LATE by 100000", x.coach(0, 2), 100000);
        return x;
    }

    // Terms (promise 8): "(WAITS are compared uncut, late in waits is told uncut)"
    static void waitsAreComparedUncut() {
        CoachWaits x = cutAhead("");
        due("100005 and 100007 are both cut", x.by(0, 1), 100000);
        due("the latest, uncut", x.forWhich(0, 1), 2);
        due("without it the other one", x.forWhich(3, 1), 1);
        due("without it, cut as well", x.by(3, 1), 100000);
    }

    // Terms (promise 8): "(WAITS are compared uncut, late in waits is told uncut)"
    static void lateInWaitsIsToldUncut() {
        due("100007 is above 100006", cutAhead("waits:to=0 or late>999*100+106;").by(0, 1), 100000);
        due("only it", cutAhead("waits:to=0 or late>999*100+106;").forWhich(3, 1), -1);
        due("100007 is not above 100007", cutAhead("waits:to=0 or late>999*100+107;").by(0, 1), 0);
        due("100005 alone is not 100007", cutAhead("waits:to=0 or late=999*100+105;").forWhich(0, 1), 1);
        due("none is 100000", cutAhead("waits:to=0 or late=999*100+100;").by(0, 1), 0);
    }

    // Terms (promise 11): "To HOLD a COACH: in the next ROUND it is so much later (a later HOLD of it strikes; 0: not at all)."
    static void aLaterHoldStrikes() {
        CoachWaits x = on(PAIR);
        x.hold(0, 9);
        x.hold(0, 1);
        due("1, not 9 and not 10", x.by(0, 0), 1);
        x.hold(0, 0);
        due("0: not at all", x.by(0, 0), 0);
        due("0: nobody is HELD", x.calm(), 0);
        x.hold(0, 5);
        x.hold(1, 2);
        due("another COACH's stays", x.coach(0, 4), 5);
        x.round(0);
        due("in the next ROUND alone", x.coach(0, 4) + x.coach(1, 4), 0);
        due("5 and 2 behind it", x.coach(1, 2), 7);
    }

    private static void canBe(CoachWaits x, long deed, boolean can) {
        put(x, 3, 3, deed);
        due("judge of " + deed, x.judge(3, 0), can ? -1 : 0);
        due("why of " + deed, x.judge(3, 1), can ? 0 : 1);
    }

    // Terms (promises 9, 11, 12, 14): "Why not: 1 no such WAIT, COACH, MUD, no 0 to 9 (HOLD)."
    static void whyNotIsOne() {
        CoachWaits x = on(PAIR);
        due("no such WAIT", x.round(3), -11);
        due("no such COACH", x.hold(2, 0), -11);
        due("no such MUD", x.mud(10), -11);
        due("no 0 to 9", x.hold(0, 10), -11);
        canBe(x, 3, false);
        canBe(x, 120, false);
        canBe(x, 30, false);
    }

    // Terms (promises 14, 15): "DEEDS: 0: a ROUND; 1 to 10: a ROUND with WAIT v - 1 left OUT (these are ROUNDS)"
    static void deedsZeroToTenAreRounds() {
        CoachWaits x = on(FULL);
        canBe(x, -1, false);
        canBe(x, 0, true);
        canBe(x, 1, true);
        canBe(x, 10, true);
        canBe(x, 11, false);
        x = on(FULL.substring(0, FULL.length() - 24));
        canBe(x, 9, true);
        canBe(x, 10, false);
        x = new CoachWaits();
        canBe(x, 0, true);
        canBe(x, 1, false);
        x = on(GROWS);
        put(x, 0, 0, 0, 1);
        x.perform(0);
        due("both were ROUNDS", x.count(4), 2);
        due("1 left WAIT 0 OUT", x.count(5), 0);
    }

    // Terms (promises 14, 15): "20 to 29: MUD v - 20"
    static void deedsTwentyToTwentyNineAreMuds() {
        CoachWaits x = on(PAIR);
        canBe(x, 19, false);
        canBe(x, 20, true);
        canBe(x, 29, true);
        canBe(x, 30, false);
        put(x, 0, 0, 29);
        x.perform(0);
        due("9", x.count(3), 9);
        put(x, 0, 0, 20);
        x.perform(0);
        due("0", x.count(3), 0);
    }

    // Terms (promises 14, 15): "100 to 199: COACH (v - 100) by 10 is HELD by v modulo 10"
    static void deedsFromAHundredOnHold() {
        CoachWaits x = on(FULL);
        canBe(x, 99, false);
        canBe(x, 100, true);
        canBe(x, 159, true);
        canBe(x, 160, false);
        canBe(x, 199, false);
        canBe(x, 200, false);
        put(x, 0, 1, 100, 109, 110, 119, 150, 159);
        due("all done", x.perform(0), 6);
        due("COACH 0 by 9", x.coach(0, 4), 9);
        due("COACH 1 by 9", x.coach(1, 4), 9);
        due("COACH 5 by 9", x.coach(5, 4), 9);
        put(x, 0, 1, 150, 110);
        x.perform(0);
        due("COACH 1 by 0", x.coach(1, 4), 0);
        due("COACH 5 by 0", x.coach(5, 4), 0);
        x = on(PAIR);
        canBe(x, 119, true);
        canBe(x, 120, false);
        x = on("road period 1 mud 0;");
        canBe(x, 100, false);
    }

    // Terms (promise 14): "others: 1."
    static void otherDeedsCantBe() {
        CoachWaits x = on(FULL);
        for (long v = 11; v < 100; v++) {
            if (v < 20 || v > 29) {
                put(x, 3, 3, v);
                due("judge of " + v, x.judge(3, 0), 0);
            }
        }
        long[] far = {-1, -20, -100, -128, 256, 276, 356, Long.MIN_VALUE, Long.MAX_VALUE};
        for (long v : far) {
            canBe(x, v, false);
        }
    }

    // Terms (promises 14, 15): "others: 1."
    static void deedsBeyondAnIntCantBe() {
        CoachWaits x = on(FULL);
        long[] ints = {1L << 32, (1L << 32) + 1, (1L << 32) + 20, (1L << 32) + 100, -(1L << 32), (1L << 33) + 29, 1L << 63};
        for (long v : ints) {
            canBe(x, v, false);
            due("perform of " + v, x.perform(3), 0);
        }
        due("nothing was done", x.count(4) + x.count(7), 0);
    }

    // Terms (promise 13): "Calls that did some can be UNDONE each as a whole"
    static void onlyCallsThatDidSomeCanBeUndone() {
        CoachWaits x = on(PAIR);
        put(x, 0, 0);
        put(x, 1, 1, 3, 0);
        put(x, 2, 1, 109, 25, 0, 0);
        x.perform(0);
        x.perform(1);
        x.round(3);
        x.rounds(0);
        x.hold(2, 0);
        x.mud(10);
        x.week(1, 0);
        due("none did any", x.count(7), 0);
        x.perform(2);
        due("four DEEDS, one call", x.count(7), 1);
        x.undo(1);
        due("as a whole: ROUNDS", x.count(4), 0);
        due("as a whole: MUD", x.count(3), 0);
        due("as a whole: HELD", x.coach(0, 4), 0);
        due("as a whole: LATE", x.count(5), 0);
    }

    // Terms (promise 13): "the latest first, 10 at most (eldest are forgotten): how LATE all were, who is HELD, MUD, ROUNDS."
    static void tenCanBeUndone() {
        CoachWaits x = on(PAIR);
        String[] stands = new String[40];
        for (int i = 0; i < 25; i++) {
            stands[i] = x.count(4) + " " + x.count(3) + " " + x.count(5) + " " + x.coach(0, 3) + " " + x.coach(0, 4);
            if (i % 3 == 0) {
                x.hold(0, 1 + i % 9);
            } else if (i % 3 == 1) {
                x.rounds(1 + i % 2);
            } else {
                x.mud(i % 10);
            }
            due("behind call " + i, x.count(7), Math.min(10, i + 1));
        }
        for (int i = 24; i >= 15; i--) {
            due("still can be", x.undo(1), i - 15);
            same("as ahead of call " + i,
                x.count(4) + " " + x.count(3) + " " + x.count(5) + " " + x.coach(0, 3) + " " + x.coach(0, 4), stands[i]);
        }
        due("the eldest are forgotten", x.undo(1), -3);
        x.round(0);
        due("and on from there", x.count(7), 1);
    }

    // ---- going, rings, rows

    // Terms (promise 17): "GOING: ROUNDS from now on, none left OUT (HELD as told)."
    static void goingIsHeldAsTold() {
        CoachWaits x = on(PAIR);
        x.hold(0, 9);
        due("HELD in the first", x.late(0, 1), 9);
        due("not in the second", x.late(0, 2), 6);
        due("nothing is done", x.coach(0, 4), 9);
    }

    // Terms (promise 22): "no COACH TO of two of them (one alone, too)"
    static void aRingOfOneAlone() {
        CoachWaits x = on("road period 5 mud 0;" + C + "wait 0 0 takes 4 lag 2;");
        due("one RING", x.rings(), 1);
        due("its PACE above", x.slowest(0), 2);
        due("its PACE below", x.slowest(1), 1);
        x = on("road period 5 mud 0;" + C + C + "wait 0 1 takes 1 lag 0;wait 1 0 takes 1 lag 1;wait 0 0 takes 1 lag 1;wait 1 1 takes 1 lag 1;");
        due("two alone, one of both; no eight through 0 and 1", x.rings(), 3);
        x = on("road period 5 mud 0;" + C + C + C + "wait 0 1 takes 1 lag 0;wait 1 2 takes 1 lag 0;wait 0 2 takes 1 lag 0;");
        due("no RING without a way back", x.rings(), 0);
    }

    // Terms (promise 20): "its PACE: TIMES added, divided by lags added."
    static void paceOfNoTimeAndOfTheMost() {
        CoachWaits x = on("road period 5 mud 0;" + C + "wait 0 0 takes 0 lag 2;");
        due("0 above", x.slowest(0), 0);
        due("1 below", x.slowest(1), 1);
        StringBuilder six = new StringBuilder("road period 5 mud 0;" + C.repeat(6));
        for (int c = 0; c < 6; c++) {
            six.append("wait ").append(c).append(' ').append((c + 1) % 6).append(" takes 9 lag 2;");
        }
        x = on(six + "takes:time+from+mud;");
        due("54 and 15 and 0 by 12: above", x.slowest(0), 23);
        due("54 and 15 and 0 by 12: below", x.slowest(1), 4);
        x = on(six + "takes:999;");
        due("six of 999 by 12: above", x.slowest(0), 999);
        due("six of 999 by 12: below", x.slowest(1), 2);
    }

    // Terms (promise 24): "KEEPING a PERIOD p: HOURS (0 and more, as many as it takes)", "the least ones for all."
    static void hoursBeyondNinetyNine() {
        StringBuilder chain = new StringBuilder("road period 5 mud 0;" + C.repeat(6));
        for (int c = 0; c < 5; c++) {
            chain.append("wait ").append(c).append(' ').append(c + 1).append(" takes 99 lag 0;");
        }
        CoachWaits x = on(chain + "takes:999;");
        due("the first", x.hour(0, 1), 0);
        due("the last", x.hour(5, 1), 4995);
        x = on("road period 5 mud 0;" + C.repeat(6) + "wait 5 4 takes 99 lag 1;wait 4 3 takes 99 lag 1;wait 3 2 takes 99 lag 1;"
            + "wait 2 1 takes 99 lag 1;wait 1 0 takes 99 lag 1;");
        due("against their order", x.hour(0, 9), 450);
        due("0 and more: 99 less 99", x.hour(0, 99), 0);
        due("0 and more: 99 less 999", x.hour(0, 999), 0);
        due("99 less 98, five times", x.hour(0, 98), 5);
    }

    // Terms (promises 20, 23, 24, 25): "with which, all WAITS kept, nobody HELD, nobody would ever be LATE"
    static void keepingWhateverTheLawWaits() {
        String two = "road period 5 mud 0;" + C + C + "wait 0 1 takes 4 lag 0;wait 1 0 takes 2 lag 1;";
        CoachWaits x = on(two + "waits:1=2;");
        x.hold(0, 9);
        x.round(0);
        x.hold(1, 9);
        due("a law that never holds", x.hour(1, 6), 4);
        due("just kept", x.hour(0, 6), 0);
        due("not kept", x.hour(0, 5), -1);
        due("the least PERIOD", x.period(), 6);
        due("the SLOWEST", x.slowest(0), 6);
        due("ROOM", x.room(0), -1000001);
        due("but nobody is LATE for it", x.forWhich(0, 1), -1);
    }

    // Terms (promise 25): "ROOM of a WAIT: how much longer it may take (whole numbers), so that no RING through it has a PACE above the PERIOD."
    static void roomToTheLast() {
        String two = C + C + "wait 0 1 takes 4 lag 0;wait 1 0 takes 5 lag 2;";
        due("10 less 9", on("road period 5 mud 0;" + two).room(0), 1);
        due("a PACE of just the PERIOD", on("road period 5 mud 0;" + C + "wait 0 0 takes 5 lag 1;").room(0), 0);
        due("1 below 0", on("road period 4 mud 0;" + two).room(0), -1000001);
        due("7 below 0", on("road period 1 mud 0;" + two).room(1), -1000007);
        due("198 less 9", on("road period 99 mud 0;" + two).room(1), 189);
        due("more than a TIME may be is room, too",
            on("road period 99 mud 0;" + C.repeat(6) + "wait 0 1 takes 0 lag 2;wait 1 2 takes 0 lag 2;wait 2 3 takes 0 lag 2;"
                + "wait 3 4 takes 0 lag 2;wait 4 5 takes 0 lag 2;wait 5 0 takes 0 lag 2;").room(0), 1188);
    }

    // Terms (promise 28): "A SPREAD: as all is planned (nobody LATE, nobody HELD else)", "99 ROUNDS with that one."
    static void aSpreadIsNinetyNineRounds() {
        CoachWaits x = on("road period 10 mud 0;" + C + "wait 0 0 takes 10 lag 1;");
        due("1 for ever: 99 times", x.spread(0, 1, 0), 99);
        due("1 for ever: 99 together", x.spread(0, 1, 1), 99);
        due("1 for ever: the last of 99", x.spread(0, 1, 2), 99);
        x = on("road period 10 mud 0;" + C + "wait 0 0 takes 9 lag 1;");
        due("1 less each: 99 to 1", x.spread(0, 99, 1), 4950);
        due("1 less each: 99 to 1", x.spread(0, 99, 2), 99);
        due("1 less each: 98 to 1", x.spread(0, 98, 2), 98);
        x.hold(0, 9);
        x.round(0);
        x.hold(0, 9);
        due("nobody LATE, nobody HELD else", x.spread(0, 2, 1), 3);
    }

    // Terms (promise 31): "Of like ROWS the first: by DEEDS as numbers."
    static void ofLikeRowsTheFirst() {
        CoachWaits x = on("road period 10 mud 0;" + C + C + C + "wait 0 0 takes 20 lag 1;wait 1 1 takes 0 lag 1;waits:late>10;");
        x.hold(0, 5);
        x.round(0);
        due("15 would be kept", x.by(0, 0), 15);
        due("two left", x.soonest(), 2);
        due("WAIT 0 left OUT", x.way(0), 1);
        due("none, though WAIT 1 left OUT is like it", x.way(1), 0);
    }

    // Terms (promise 30): "IN TIME: a ROW behind which nobody was LATE in the last two ROUNDS (those that there were counted, too), and nobody is HELD."
    static void inTimeCountsThoseThatWere() {
        CoachWaits x = on("road period 10 mud 0;" + C);
        due("no ROUNDS at all", x.soonest(), 0);
        x.hold(0, 1);
        due("HELD: it must go, and two more", x.soonest(), 3);
        x.round(0);
        due("LATE in the last: two", x.soonest(), 2);
        x.round(0);
        due("LATE in the one ahead: one", x.soonest(), 1);
        x.hold(0, 1);
        due("HELD again", x.soonest(), 3);
        x.hold(0, 0);
        due("HELD by 0", x.soonest(), 1);
        x.round(0);
        due("both in time", x.soonest(), 0);
    }

    // Terms (promise 33): "SEEN in a TRAY (1 to 8 numbers: how LATE one was in one ROUND after another, GOING): MUDS 0 to 9 by which it is so."
    static void seenByMudsZeroToNine() {
        CoachWaits x = on("road period 10 mud 4;" + C + C + "wait 0 1 takes 0 lag 0;");
        for (int m = 0; m < 10; m++) {
            put(x, 0, 0, m);
            due("MUD " + m, x.muds(0, 1), 1 << m);
        }
        put(x, 0, 0, 10);
        due("there is no MUD 10", x.muds(0, 1), 0);
        put(x, 0, 0, 0);
        due("all ten", x.muds(0, 0), 1023);
        put(x, 0, 0, 9, 9, 9, 9, 9, 9, 9, 9);
        due("eight", x.muds(0, 1), 512);
        put(x, 0, 0, 9, 9, 9, 9, 9, 9, 9, 8);
        due("but for the eighth", x.muds(0, 1), 0);
    }

    // Terms (promises 35, 36): "one of ten lots is drawn, each as likely: by lot v COACH v is HELD by a told n more (of others nobody is)."
    static void tenLots() {
        int[][] inTime = {{1, 1}, {9, 10}, {4, 5}, {7, 10}, {3, 5}, {1, 2}, {2, 5}};
        for (int coaches = 0; coaches <= 6; coaches++) {
            CoachWaits x = on("road period 10 mud 0;" + C.repeat(coaches));
            due("above, of " + coaches, x.chance(1, 1, 0), inTime[coaches][0]);
            due("below, of " + coaches, x.chance(1, 1, 1), inTime[coaches][1]);
        }
        CoachWaits x = on("road period 10 mud 0;" + C.repeat(6));
        x.hold(5, 4);
        due("HELD by 4, and 1 more for one of ten: above", x.mean(5, 1, 1, 0), 41);
        due("HELD by 4, and 1 more for one of ten: below", x.mean(5, 1, 1, 1), 10);
        due("in the second ROUND 1 alone: above", x.mean(5, 1, 2, 0), 1);
        due("in the second ROUND 1 alone: below", x.mean(5, 1, 2, 1), 10);
    }

    private static long drawn;

    /** A DRAW without an int's wrap-around: the lowest 32 bits are kept by a mask. */
    private static int draw() {
        drawn = (1103515245L * drawn + 12345L) & 0xffffffffL;
        return (int) (drawn >> 16);
    }

    private static int week(CoachWaits y, int seed, int times) {
        drawn = seed & 0xffffffffL;
        int could = 0;
        for (int i = 0; i < times; i++) {
            int sort = draw() % 6;
            int answer;
            if (sort < 3) {
                answer = y.round(0);
            } else if (sort == 3) {
                answer = y.round(draw() % 11);
            } else if (sort == 4) {
                answer = y.mud(draw() % 10);
            } else {
                int c = draw() % 6;
                answer = y.hold(c, draw() % 10);
            }
            could += answer >= 0 ? 1 : 0;
        }
        return could;
    }

    // Terms (promise 16): "A WEEK by a SEED (x, an int; a DRAW: x becomes 1103515245 x + 12345, it is x >>> 16)"
    static void drawsWrapAround() {
        int[] seeds = {0, 1, -1, LEAST, MOST, 65535, 65536, -65536, 1 << 30, 123456789, -987654321};
        for (int seed : seeds) {
            CoachWaits x = on(PAIR);
            CoachWaits y = on(PAIR);
            due("week(" + seed + ", 40)", x.week(seed, 40), week(y, seed, 40));
            for (int i = 0; i < 7; i++) {
                due("count(" + i + ") behind it", x.count(i), y.count(i));
            }
            due("HELD behind it", x.coach(0, 4) * 10 + x.coach(1, 4), y.coach(0, 4) * 10 + y.coach(1, 4));
        }
    }

    // Terms (promise 16): "so many times (1 to 40)"
    static void aWeekOneToForty() {
        CoachWaits x = on(PAIR);
        due("0", x.week(1, 0), -3);
        due("41", x.week(1, 41), -3);
        due("below 0", x.week(1, -1), -3);
        due("nothing was done", x.count(7), 0);
        due("1", x.week(1, 1), week(on(PAIR), 1, 1));
        due("40", x.week(3, 40), week(on(PAIR), 3, 40));
    }

    // Terms (promise 16): "3 the DEED DRAW modulo 11; 4 MUD DRAW modulo 10; 5 COACH DRAW modulo 6 is HELD by DRAW modulo 10; as in a TRAY, if it can be."
    static void aWeekPassesOverWhatCantBe() {
        for (int seed = 0; seed < 30; seed++) {
            CoachWaits x = new CoachWaits();
            CoachWaits y = new CoachWaits();
            due("without COACHES, " + seed, x.week(seed, 40), week(y, seed, 40));
            due("ROUNDS behind it", x.count(4), y.count(4));
            due("MUD behind it", x.count(3), y.count(3));
            x = on(FULL);
            due("all can be, " + seed, x.week(seed, 40), 40);
        }
    }

    // Terms (promises 14, 15, 33, 34, 38, 39): "TRAYS 0 to 3 are MISSING at first"
    static void traysAreMissingAtFirst() {
        CoachWaits x = on(PAIR);
        for (int tray = 0; tray < 4; tray++) {
            due("judge", x.judge(tray, 0), -6);
            due("perform", x.perform(tray), -6);
            due("muds", x.muds(tray, 0), -6);
            due("look", x.look(tray, 0), -6);
            due("write", x.write(tray, 0, 0), -6);
            due("lists", x.lists(tray, 0), -6);
        }
        x.numbers(2, 0, 0);
        due("of no numbers isn't MISSING", x.judge(2, 0), -1);
        due("the others still are", x.judge(1, 0) + x.judge(3, 0), -12);
    }

    // Terms (promises 37, 38): "or have 0 to 40 numbers of 8 bits (sort 0), 16 (1), 32 (2), 64 (3)"
    static void numbersOfTheirBits() {
        CoachWaits x = new CoachWaits();
        long[][] ends = {{127, -128}, {32767, -32768}, {MOST, LEAST}, {Long.MAX_VALUE, Long.MIN_VALUE}};
        for (int sort = 0; sort < 4; sort++) {
            x.numbers(sort, sort, 40);
            long most = ends[sort][0];
            long least = ends[sort][1];
            due("the most of sort " + sort, x.write(sort, 39, most), most);
            due("the least of sort " + sort, x.write(sort, 39, least), least);
            due("one above, sort " + sort, x.write(sort, 0, most + 1), least);
            due("one below, sort " + sort, x.write(sort, 0, least - 1), most);
            due("-1 of sort " + sort, x.write(sort, 0, -1), -1);
            due("no 41st", x.write(sort, 40, 0), -7);
        }
    }

    // Terms (promise 41): "IMAGES 0 to 1: THE ROAD and what a call could bring back by UNDOING; nothing can be UNDONE behind (none at first)."
    static void imagesNoneAtFirst() {
        CoachWaits x = on(PAIR);
        due("none at first", x.restore(0), -5);
        due("none at first", x.restore(1), -5);
        x.hold(0, 3);
        x.image(1);
        due("0 is still none", x.restore(0), -5);
        x.round(0);
        x.restore(1);
        due("nothing can be UNDONE behind", x.undo(1), -3);
        due("nothing can be UNDONE behind", x.count(7), 0);
        due("HELD as it was", x.coach(0, 4), 3);
    }

    private static CoachWaits busy() {
        CoachWaits x = on(PAIR);
        x.image(0);
        x.hold(0, 9);
        x.rounds(2);
        x.mud(1);
        x.hold(1, 4);
        put(x, 0, 1, 109, 0);
        put(x, 1, 0);
        put(x, 2, 1, -1, 0, 0);
        feed(x, R);
        return x;
    }

    // Terms (promises 2 to 42): "Refused calls answer by a code and change nothing"
    static void refusedCallsChangeNothing() {
        Call[] refused = {x -> x.road(21), x -> x.round(3), x -> x.rounds(0), x -> x.hold(2, 1), x -> x.hold(0, 10), x -> x.mud(10),
            x -> x.undo(5), x -> x.undo(0), x -> x.judge(4, 0), x -> x.judge(3, 0), x -> x.perform(4), x -> x.perform(3), x -> x.week(1, 41),
            x -> x.late(2, 1), x -> x.late(0, 1000), x -> x.sets(2, 1), x -> x.sets(0, 0), x -> x.slowest(2), x -> x.hour(2, 1),
            x -> x.hour(0, 0), x -> x.room(2), x -> x.leaves(1, 2), x -> x.leaves(0, 0), x -> x.spread(2, 1, 0), x -> x.spread(0, 100, 0),
            x -> x.leeway(2), x -> x.way(-1), x -> x.rows(2, 1), x -> x.rows(0, 5), x -> x.muds(4, 0), x -> x.muds(3, 0), x -> x.muds(1, 0),
            x -> x.muds(2, 0), x -> x.look(4, 0), x -> x.look(3, 0), x -> x.look(1, 0), x -> x.look(2, 0), x -> x.chance(1, 1, 2),
            x -> x.chance(1, 5, 0), x -> x.mean(2, 1, 1, 0), x -> x.mean(0, 1, 0, 0), x -> x.numbers(4, 0, 1), x -> x.numbers(0, 0, 41),
            x -> x.write(4, 0, 9), x -> x.write(3, 0, 9), x -> x.write(0, 2, 9), x -> x.lists(4, 0), x -> x.lists(3, 0), x -> x.lists(0, 2),
            x -> x.image(2), x -> x.restore(2), x -> x.restore(1), x -> x.coach(2, 0), x -> x.waiting(2, 0), x -> x.by(3, 0), x -> x.forWhich(0, 2)};
        CoachWaits x = busy();
        for (int i = 0; i < refused.length; i++) {
            long answer = refused[i].on(x);
            due("refused call " + i, answer < -1 ? 1 : answer, 1);
        }
        CoachWaits y = busy();
        same("all that can be read", stand(x), stand(y));
        for (int n = 3; n >= 0; n--) {
            due("undo", x.undo(1), n);
            y.undo(1);
            same("behind it", stand(x), stand(y));
        }
        due("THE TAPE", x.road(20), 1);
        due("the IMAGE", x.restore(0), 0);
        due("as it was made", x.count(0), 2);
    }

    // Terms (promises 2 to 42): "-2 there is none such; -3 a number can't be; -4 too many; -5 it can't be now; -6 a TRAY is MISSING; -7 it has no such number; -11
    // why not; -30 less the FAULT: a text."
    static void theCodes() {
        CoachWaits x = on(PAIR);
        due("none such", x.coach(2, 0), -2);
        due("a number can't be", x.rounds(0), -3);
        x.numbers(0, 0, 9);
        due("too many", x.muds(0, 0), -4);
        due("it can't be now", x.restore(0), -5);
        due("a TRAY is MISSING", x.perform(1), -6);
        due("it has no such number", x.write(0, 9, 0), -7);
        due("why not", x.round(3), -11);
        due("a text", x.road(0), -32);
    }

    // Terms (promises 2 to 42): "(Of several that which the call tells first; all these ahead of NONE.)"
    static void ofSeveralTheFirstTold() {
        CoachWaits x = on(PAIR);
        x.numbers(0, 0, 9);
        x.write(0, 0, -1);
        due("by: COACH, ROUND", x.by(3, 2), -2);
        due("forWhich: COACH, ROUND", x.forWhich(3, 2), -2);
        due("judge: what, MISSING", x.judge(1, 4), -2);
        due("late: COACH, n", x.late(2, 0), -2);
        due("sets: COACH, n", x.sets(2, 0), -2);
        due("hour: COACH, p", x.hour(2, 0), -2);
        due("leaves: what, p", x.leaves(0, 2), -2);
        due("spread: what, n", x.spread(0, 100, 4), -2);
        due("rows: COACH, n", x.rows(2, 5), -2);
        due("muds: COACH, MISSING", x.muds(1, 2), -2);
        due("muds: numbers, below 0", x.muds(0, 0), -4);
        due("look: COACH, MISSING", x.look(1, 2), -2);
        due("look: numbers, below 0", x.look(0, 0), -4);
        due("chance: what, n, k", x.chance(100, 5, 2), -2);
        due("mean: what, n, k", x.mean(0, 100, 5, 2), -2);
        due("numbers: sort, n", x.numbers(0, 4, 41), -2);
        due("write: MISSING, number", x.write(1, 40, 0), -6);
        due("lists: COACH, MISSING", x.lists(1, 2), -2);
        due("slowest: what, no RINGS", new CoachWaits().slowest(2), -2);
        due("room: no WAIT, no RINGS", new CoachWaits().room(0), -2);
        due("way: below 0, none", new CoachWaits().way(-1), -3);
        due("hour: p, can't be kept", on(GROWS).hour(0, 0), -3);
    }
}
