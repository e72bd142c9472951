/** The bounds of A WORD, as kin (promise 7), alike (8), allRules (13) and those (19) read it. */
public final class WordBoundsTest {
    private static final String STEPS = "fmhwsdbz";

    private WordBoundsTest() {
    }

    public static void main(String[] args) {
        Cases.run(WordBoundsTest.class);
    }

    /** How many steps of one of this sort, or the fault. */
    private static void reads(String text, int sort, int due) {
        Teller t = Cases.withRule("ab/ab");
        Cases.due("word " + text + " of " + sort, due, t.kin(text, sort, 104));
        Cases.due("the tape behind " + text, 0, t.tape());
    }

    private static void reads(String text, int due) {
        reads(text, 0, due);
    }

    private static boolean isIn(String signs, int c) {
        return signs.indexOf(c) >= 0;
    }

    static void wordOfAtMostFortyBytes() {
        String forty = Cases.times("(f)", 8) + Cases.times("f", 16);
        Cases.due("bytes", 40, forty.length());
        reads(forty, 24);
        Teller t = Cases.withRule("ab/ab");
        t.feed(forty + "f");
        Cases.due("41", Cases.NONE, t.v.kin(41, 0, 104));
        Cases.due("the tape stays", 60, t.tape());
        Cases.due("40", 24, t.v.kin(40, 0, 104));
    }

    static void wordNoBlanks() {
        reads(" f", -1000);
        reads("f ", -1001);
        reads("2 f", -1001);
        reads("( f)", -1001);
        reads("(f )", -1002);
    }

    static void wordFault1AtTheFirstByte() {
        for (int c = 0; c < 256; c++) {
            reads((char) c + "!", isIn("fmhwsdbz23456789(", c) ? -1001 : -1000);
        }
    }

    static void wordFault1BehindADigit() {
        for (int c = 0; c < 256; c++) {
            reads("2" + (char) c + "!", isIn(STEPS + "(", c) ? -1002 : -1001);
        }
    }

    static void wordFault1BehindAStep() {
        for (int c = 0; c < 256; c++) {
            reads("f" + (char) c + "!", isIn(STEPS + "23456789(", c) ? -1002 : -1001);
        }
    }

    static void wordFault1InARound() {
        for (int c = 0; c < 256; c++) {
            reads("(" + (char) c + "!", isIn(STEPS + "23456789(", c) ? -1002 : -1001);
            reads("(f" + (char) c + "!", isIn(STEPS + "23456789()", c) ? -1003 : -1002);
            reads("(2" + (char) c + "!", isIn(STEPS + "(", c) ? -1003 : -1002);
        }
    }

    static void wordFault1BehindARound() {
        for (int c = 0; c < 256; c++) {
            reads("(f)" + (char) c + "!", isIn(STEPS + "23456789(", c) ? -1004 : -1003);
            reads("((f)" + (char) c + "!", isIn(STEPS + "23456789()", c) ? -1005 : -1004);
        }
    }

    static void wordFault1TheEnd() {
        String whole = "f2m3(s(2db)z)";
        int[] due = {1, -1002, 3, -1004, -1005, -1006, -1007, -1008, -1009, -1010, -1011, -1012, 18};
        for (int n = 1; n <= whole.length(); n++) {
            reads(whole.substring(0, n), due[n - 1]);
        }
    }

    static void wordADigitIsTwoToNine() {
        reads("0f", -1000);
        reads("1f", -1000);
        for (int digit = 2; digit <= 9; digit++) {
            reads(digit + "f", digit);
            reads(digit + "(m)", digit);
        }
        reads("/f", -1000);
        reads(":f", -1000);
    }

    static void wordOneDigitAlone() {
        reads("22f", -1001);
        reads("99f", -1001);
        reads("2(3f)", 6);
    }

    static void wordAnEmptyRoundCantStand() {
        reads("()", -1001);
        reads("(())", -1002);
        reads("f()", -1002);
        reads("2()", -1002);
    }

    static void wordFault5AThirdRoundAtIt() {
        reads("(f)", 1);
        reads("((f))", 1);
        reads("(((f)))", -5002);
        reads("(((", -5002);
        reads("((f(", -5003);
        reads("2(3(4(f)))", -5005);
        reads("((f)(f(", -5006);
        reads("(((!", -5002);
    }

    static void wordFault5NotOfRoundsBesideEachOther() {
        reads("(f)(f)(f)", 3);
        reads("((f)(f)(f))", 3);
        reads("((f))((f))", 2);
    }

    static void wordFault5OrAnEarlierFault1() {
        reads("((!(", -1002);
        reads("((2(", -5003);
        reads("((22(", -1003);
    }

    static void word24StepsAtMostInAll() {
        reads(Cases.times("f", 23), 23);
        reads(Cases.times("f", 24), 24);
        reads(Cases.times("f", 25), -6024);
        reads(Cases.times("f", 26), -6024);
    }

    static void wordFault6OfAStepAtItsDigit() {
        for (int ahead = 1; ahead <= 24; ahead++) {
            for (int digit = 2; digit <= 9; digit++) {
                int all = ahead + digit;
                reads(Cases.times("f", ahead) + digit + "m", all > 24 ? -6000 - ahead : all);
            }
        }
    }

    static void wordFault6OfARoundAtItsDigit() {
        for (int in = 1; in <= 24; in++) {
            for (int digit = 2; digit <= 9; digit++) {
                int all = in * digit;
                reads(digit + "(" + Cases.times("f", in) + ")", all > 24 ? -6000 : all);
            }
        }
        reads("f3(8f)", -6001);
        reads("f(f)3(8f)", -6004);
    }

    static void wordFault6OfARoundBehindSteps() {
        for (int ahead = 1; ahead <= 21; ahead++) {
            int all = ahead + 4;
            reads(Cases.times("b", ahead) + "2(bz)", all > 24 ? -6000 - ahead : all);
        }
    }

    static void wordFault6WhatStandsBehindARound() {
        reads("2(9f)6f", 24);
        reads("2(9f)7f", -6005);
        reads("3(8f)f", -6005);
        reads("3(8f)(f)", -6006);
    }

    static void wordFault6OfAnInnerOneFirst() {
        reads("2(3(9f)", -6002);
        reads("9(9f9f9f)", -6006);
        reads("2(2(9f)f)", -6000);
        reads("2(2(6f))", 24);
        reads("2(f2(6f))", -6000);
        reads("2(9(3f))", -6002);
    }

    static void wordFault6IsAskedWhenItEnds() {
        reads("9f9f9", -1005);
        reads("9f9f9!", -1005);
        reads("9f9f9f!", -6004);
        reads("3(9f", -1004);
        reads("3(9f!", -1004);
        reads("3(9f((", -5005);
        reads("3(9f)!", -6000);
    }

    static void wordFault7AHusbandOfAMan() {
        reads("h", 0, -7000);
        reads("h", 1, 1);
        for (char man : "fsb".toCharArray()) {
            reads(man + "h", 0, -7001);
            reads(man + "h", 1, -7001);
        }
        reads("hh", 1, -7001);
        for (char woman : "mdz".toCharArray()) {
            reads(woman + "h", 0, 2);
            reads(woman + "h", 1, 2);
        }
        reads("wh", 0, 2);
    }

    static void wordFault7AWifeOfAWoman() {
        reads("w", 1, -7000);
        reads("w", 0, 1);
        for (char woman : "mdz".toCharArray()) {
            reads(woman + "w", 0, -7001);
            reads(woman + "w", 1, -7001);
        }
        reads("ww", 0, -7001);
        for (char man : "fsb".toCharArray()) {
            reads(man + "w", 0, 2);
            reads(man + "w", 1, 2);
        }
        reads("hw", 1, 2);
    }

    static void wordFault7AtTheLetterNotTheDigit() {
        reads("3h", 0, -7001);
        reads("2w", 0, -7001);
        reads("m2h", 0, -7002);
        reads("2(h)", 0, -7002);
        reads("2(3(h))", 0, -7004);
    }

    static void wordFault7OfARoundDoneAgain() {
        reads("(w)", 0, 1);
        reads("2(w)", 0, -7002);
        reads("2(wh)", 0, 4);
        reads("2(hw)", 1, 4);
        reads("2(wz)", 0, -7002);
        reads("2(wmf)", 0, 6);
    }

    static void wordFault7OfTwoTheFirst() {
        reads("hw", 0, -7000);
        reads("hh", 0, -7000);
        reads("fhmw", 0, -7001);
        // Of a round done again the second step is so at first, then the first one.
        reads("2(wzw)", 0, -7004);
    }

    static void wordFault7BehindAllOthers() {
        reads("h!", 0, -1001);
        reads("h2", 0, -1002);
        reads("h(((", 0, -5003);
        reads("h9f9f9f", 0, -6005);
        reads("w", 1, -7000);
        reads("w)", 1, -1001);
    }

    static void wordFault1OrFault6TheFirstFromTheLeft() {
        reads("9f9f9f(((", -6004);
        reads("(((9f9f9f", -5002);
        reads("!9f9f9f", -1000);
    }

    /** As a promise's own answer counts as no fault: 0. */
    private static int fault(int answer) {
        return answer <= -1000 ? answer : 0;
    }

    static void wordIsReadLikewiseByAllCalls() {
        String[] words = {"f", "!", "2", "(((f", "9f9f9f", "h", "w", "2(w)", "2(h)"};
        int[] ofAMan = {0, -1000, -1001, -5002, -6004, -7000, 0, -7002, -7002};
        int[] ofAWoman = {0, -1000, -1001, -5002, -6004, 0, -7000, -7002, -7002};
        Teller t = Cases.withRoll("ab/ab", "M;F&0");
        for (int i = 0; i < words.length; i++) {
            for (int sort = 0; sort < 2; sort++) {
                int due = sort == 0 ? ofAMan[i] : ofAWoman[i];
                int ofSecond = due == 0 ? 0 : due - 100000;
                Cases.due("kin " + words[i], due, fault(t.kin(words[i], sort, 100)));
                Cases.due("those " + words[i], due, fault(t.those(sort, words[i])));
                Cases.due("alike, the first " + words[i], due, fault(t.alike(words[i], "b", sort)));
                Cases.due("alike, the second " + words[i], ofSecond, fault(t.alike("b", words[i], sort)));
            }
            Cases.due("allRules " + words[i], ofAMan[i], fault(t.allRules(2, words[i], 0)));
            Cases.due("the tape behind " + words[i], 0, t.tape());
        }
    }
}
