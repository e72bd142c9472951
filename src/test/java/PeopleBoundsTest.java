import java.util.Random;

/** The bounds of ON PEOPLE: promises 14 to 22. */
public final class PeopleBoundsTest {
    private static final int ALL = (1 << 24) - 1;

    private PeopleBoundsTest() {
    }

    public static void main(String[] args) {
        Cases.run(PeopleBoundsTest.class);
    }

    /** 24 men, each the son of the one ahead of him. */
    private static String line() {
        StringBuilder text = new StringBuilder("M");
        for (int p = 0; p < 23; p++) {
            text.append(";M<").append(p).append(",-");
        }
        return text.toString();
    }

    private static String strangers() {
        return Cases.times("M;F;", 11) + "M;F";
    }

    // ---- promise 14 ----

    static void promise14TheFirstAndTheLast() {
        NamedToWed v = Cases.withRoll("ab/ab", strangers()).v;
        Cases.due("the first", 0, v.personIs(0, 0));
        Cases.due("the last", 1, v.personIs(23, 0));
        for (int bad : new int[] {-1, 24, Integer.MIN_VALUE, Integer.MAX_VALUE}) {
            for (int what = 0; what < 9; what++) {
                Cases.due("person " + bad, Cases.NONE, v.personIs(bad, what));
            }
        }
        NamedToWed few = Cases.withRoll("ab/ab", "M;F").v;
        Cases.due("the last", 1, few.personIs(1, 0));
        Cases.due("beyond", Cases.NONE, few.personIs(2, 0));
        Cases.due("with no roll", Cases.NONE, Cases.withRule("ab/ab").v.personIs(0, 0));
    }

    static void promise14WhatZeroToEight() {
        NamedToWed v = Cases.withRoll("ab/ab", "Ma").v;
        int[] due = {0, 0, -2, -2, -2, 0, 0, 1, 0};
        for (int what = 0; what < 9; what++) {
            Cases.due("what " + what, due[what], v.personIs(0, what));
        }
        for (int bad : new int[] {-1, 9, 10, Integer.MIN_VALUE, Integer.MAX_VALUE}) {
            Cases.due("what " + bad, Cases.NONE, v.personIs(0, bad));
        }
    }

    static void promise14MinusTwoNoneTold() {
        NamedToWed v = Cases.withRoll("ab/ab", "M;F<-,-").v;
        for (int what = 1; what <= 4; what++) {
            Cases.due("what " + what, -2, v.personIs(0, what));
            Cases.due("what " + what, -2, v.personIs(1, what));
        }
    }

    static void promise14TheNumberZeroIsNotNone() {
        NamedToWed v = Cases.withRoll("ab/ab", "Ma;F<0,-;F&0").v;
        Cases.due("the name a", 0, v.personIs(0, 1));
        Cases.due("the father 0", 0, v.personIs(1, 2));
        Cases.due("wed to 0", 0, v.personIs(2, 4));
        Cases.due("and he to her", 2, v.personIs(0, 4));
        NamedToWed mother = Cases.withRoll("ab/ab", "F;F<-,0").v;
        Cases.due("the mother 0", 0, mother.personIs(1, 3));
    }

    static void promise14ChildrenNoneToAll() {
        NamedToWed v = Cases.withRoll("ab/ab", "F" + Cases.times(";M<-,0", 23)).v;
        Cases.due("all others", ALL - 1, v.personIs(0, 5));
        Cases.due("none", 0, v.personIs(23, 5));
        Cases.due("all but himself", ALL - 1 - (1 << 23), v.personIs(23, 6));
        Cases.due("she has none", 0, v.personIs(0, 6));
    }

    static void promise14SiblingsByATold() {
        NamedToWed v = Cases.withRoll("ab/ab", "M;F;M<0,-;F<-,1;M<0,1;F<-,-;M").v;
        Cases.due("by the father", 16, v.personIs(2, 6));
        Cases.due("by the mother", 16, v.personIs(3, 6));
        Cases.due("by one of both", 4 | 8, v.personIs(4, 6));
        Cases.due("unknown parents are not the same", 0, v.personIs(5, 6));
        Cases.due("nor are none", 0, v.personIs(6, 6));
    }

    static void promise14MayBeAllToNone() {
        for (int names = 2; names <= 6; names++) {
            String letters = "abcdef".substring(0, names);
            NamedToWed v = Cases.withRoll(letters + "/" + letters, "M;Fa;Ma;Fb&2").v;
            Cases.due("all", (1 << names) - 1, v.personIs(0, 7));
            Cases.due("not sure", -2, v.personIs(0, 8));
            Cases.due("one", 1, v.personIs(1, 7));
            Cases.due("sure", 0, v.personIs(1, 8));
            Cases.due("none", 0, v.personIs(2, 7));
            Cases.due("the house is wrong", -3, v.personIs(2, 8));
            Cases.due("her, too", -3, v.personIs(3, 8));
        }
    }

    static void promise14MayBeTwoIsNotSure() {
        // Wed to her own son: his name is the child's of hers, and his wife's is hers: a and b both change to each other.
        NamedToWed v = Cases.withRoll("bacd/bacd", "F;M<-,0&0").v;
        Cases.due("all four", 15, v.personIs(0, 7));
        v = Cases.withRoll("bacd/abdc", "F;M<-,0&0").v;
        Cases.due("none", 0, v.personIs(0, 7));
        v = Cases.withRoll("badc/bacd", "F;M<-,0&0").v;
        Cases.due("a and b", 3, v.personIs(0, 7));
        Cases.due("not sure", -2, v.personIs(0, 8));
        v = Cases.withRoll("badc/bacd", "F;Ma<-,0&0").v;
        Cases.due("b by a told name", 1, v.personIs(0, 8));
        v = Cases.withRoll("badc/bacd", "F;Mc<-,0&0").v;
        Cases.due("wrong by a told name", -3, v.personIs(0, 8));
    }

    /** Who is sure to have which name; the wife of a is b, of b c, of c a. */
    private static void names(String children, String roll, String due) {
        NamedToWed v = Cases.withRoll("bca/" + children, roll).v;
        for (int p = 0; p < due.length(); p++) {
            Cases.due(roll + ", sure " + p, due.charAt(p) - 'a', v.personIs(p, 8));
            Cases.due(roll + ", may be " + p, 1 << due.charAt(p) - 'a', v.personIs(p, 7));
        }
    }

    static void promise14ANameFollowsFromEachOther() {
        names("abc", "Ma;F&0", "ab");
        names("abc", "M;Fb&0", "ab");
        names("abc", "Fb;M&0", "ba");
        names("abc", "F;Ma&0", "ba");
        names("cab", "Fa;M<-,0", "ac");
        names("cab", "F;Mc<-,0", "ac");
        names("cab", "Ma;M<0,-", "aa");
        names("cab", "M;Mb<0,-", "bb");
        names("acb", "Ma;M<0,-", "ac");
        names("acb", "M;Mc<0,-", "ac");
    }

    static void promise14ANameFollowsByAChild() {
        names("acb", "Fa;M;F<1,0", "aca");
        names("acb", "F;Mc;F<1,0", "aca");
        names("acb", "Ma;F;M<0,1", "abc");
        names("acb", "M;Fb;M<0,1", "abc");
        names("acb", "M;F;Mc<0,1", "abc");
    }

    static void promise14ANameFollowsRoundAboutToALowerOne() {
        // She (0) is wed to 3, whose mother is 2, who is wed to 1.
        names("bca", "Fa;M;F&1;M<-,2&0", "aabc");
        names("bca", "F;Ma;F&1;M<-,2&0", "aabc");
        names("bca", "Fa;F;M&1;M<2,-&0", "abac");
    }

    static void promise14ANameFollowsThroughAll24() {
        // The last one is the first one's child, and his father's father's father is 1.
        StringBuilder text = new StringBuilder("F;Ma");
        for (int p = 2; p < 24; p++) {
            text.append(";M<").append(p - 1).append(p < 23 ? ",-" : ",0");
        }
        // A child has his mother's name, the next one behind his father's.
        NamedToWed v = Cases.withRoll(Cases.CIRCLE, text.toString()).v;
        for (int p = 1; p < 24; p++) {
            Cases.due("sure " + p, (p - 1) % 6, v.personIs(p, 8));
        }
        Cases.due("sure is she", 22 % 6, v.personIs(0, 8));
        Cases.due("one house", 1, v.houses(0));
        Cases.due("that is right", 0, v.houses(1));
    }

    static void promise14TheLastNameIsSure() {
        NamedToWed v = Cases.withRoll("abcdef/abcdef", "Mf;F&0").v;
        Cases.due("f", 5, v.personIs(1, 8));
        Cases.due("f", 32, v.personIs(1, 7));
        Cases.due("f", 5, v.personIs(0, 1));
    }

    // ---- promise 15 ----

    static void promise15NoneTo24() {
        Cases.due("with no roll", 0, new NamedToWed().houses(0));
        Cases.due("with no roll", 0, new NamedToWed().houses(1));
        Cases.due("with no roll", 0, new NamedToWed().houses(2));
        NamedToWed v = Cases.withRoll("ab/ab", strangers()).v;
        Cases.due("24", 24, v.houses(0));
        Cases.due("none wrong", 0, v.houses(1));
        Cases.due("nobody", 0, v.houses(2));
        Cases.due("one", 1, Cases.withRoll("ab/ab", line()).v.houses(0));
    }

    static void promise15HangTogetherByParentsAndWeddings() {
        Cases.due("father", 2, Cases.withRoll("ab/ab", "M;F;M<0,-").v.houses(0));
        Cases.due("mother", 2, Cases.withRoll("ab/ab", "M;F;M<-,1").v.houses(0));
        Cases.due("both", 1, Cases.withRoll("ab/ab", "M;F;M<0,1").v.houses(0));
        Cases.due("wed", 1, Cases.withRoll("ab/ab", "M;F&0").v.houses(0));
        Cases.due("by the last one", 1, Cases.withRoll("ab/ab", "M;F;M;F&0;M<2,1;F<4,3").v.houses(0));
    }

    static void promise15AllWrong() {
        StringBuilder text = new StringBuilder("Ma;Fb&0");
        for (int p = 2; p < 24; p += 2) {
            text.append(";Ma;Fb&").append(p);
        }
        NamedToWed v = Cases.withRoll("ab/ab", text.toString()).v;
        Cases.due("houses", 12, v.houses(0));
        Cases.due("wrong", 12, v.houses(1));
        Cases.due("people", ALL, v.houses(2));
        Cases.due("mended", 12, v.mended(0));
    }

    static void promise15WrongByHowItHangsTogether() {
        // A mother wed to her son: by no name of two that change as wives and stay as children.
        NamedToWed v = Cases.withRoll("ba/ab", "F;M<-,0&0;M").v;
        Cases.due("houses", 2, v.houses(0));
        Cases.due("wrong", 1, v.houses(1));
        Cases.due("people", 3, v.houses(2));
        Cases.due("no told name is there", -2, v.mended(0));
    }

    static void promise15TwoWrongByHowTheyHangTogether() {
        NamedToWed v = Cases.withRoll("ba/ab", "F;M<-,0&0;M;F;M<-,3&3").v;
        Cases.due("houses", 3, v.houses(0));
        Cases.due("wrong", 2, v.houses(1));
        Cases.due("people", 1 | 2 | 8 | 16, v.houses(2));
    }

    static void promise15WrongByAWeddingAlone() {
        // All are named by parents ahead of the wedding of 1 and 2: he is a, and so is she.
        String roll = "F;M;F&1;M<1,-&0;M<3,2";
        Cases.due("wives b and a", 1, Cases.withRoll("ba/ab", roll).v.houses(1));
        Cases.due("mended", -2, Cases.withRoll("ba/ab", roll).v.mended(0));
        Cases.due("one's own", 0, Cases.withRoll("ab/ab", roll).v.houses(1));
        Cases.due("children as wives", 0, Cases.withRoll("ba/ba", roll).v.houses(1));
    }

    static void promise15WrongByAFatherOrAMother() {
        // His children of whomsoever have the other name than he; those of one of that name have his own.
        String roll = "M;F<0,-;M<0,1";
        Cases.due("a daughter's child by her own father", 1, Cases.withRoll("ab/ba", roll).v.houses(1));
        Cases.due("people", 7, Cases.withRoll("ab/ba", roll).v.houses(2));
        Cases.due("where a child has its mother's name", 0, Cases.withRoll("ba/ab", roll).v.houses(1));
    }

    static void promise15NoSuchWhat() {
        NamedToWed v = Cases.withRoll("ab/ab", "M").v;
        for (int bad : new int[] {-1, 3, Integer.MIN_VALUE, Integer.MAX_VALUE}) {
            Cases.due("houses " + bad, Cases.NONE, v.houses(bad));
        }
    }

    // ---- promise 16 ----

    static void promise16NoneMustGo() {
        Cases.due("with no roll", 0, new NamedToWed().mended(0));
        Cases.due("with no roll", 0, new NamedToWed().mended(1));
        NamedToWed v = Cases.withRoll("ab/ab", "Ma;Fa&0;Ma<0,1").v;
        Cases.due("how many", 0, v.mended(0));
        Cases.due("which", 0, v.mended(1));
    }

    static void promise16TheFewest() {
        NamedToWed v = Cases.withRoll("ab/ab", "Ma;Fb&0;Mb<0,1;Mb<0,1").v;
        Cases.due("one of four", 1, v.mended(0));
        Cases.due("the first's", 1, v.mended(1));
        v = Cases.withRoll("ab/ab", "Ma;Fb&0;Ma<0,1;Mb<0,1;Ma<0,1").v;
        Cases.due("two of five", 2, v.mended(0));
        Cases.due("those of b", 2 | 8, v.mended(1));
    }

    static void promise16OfAsFewTheLowestNameOfTheLowest() {
        NamedToWed v = Cases.withRoll("ab/ab", "Mb;Fa&0").v;
        Cases.due("one", 1, v.mended(0));
        Cases.due("b's, since a is the lowest name", 1, v.mended(1));
        // The lowest one, untold, is a: his wife b, as told; the other, b, has a wife a.
        v = Cases.withRoll("ba/ab", "M;Fa&0;Fa<0,1").v;
        Cases.due("none", 0, v.mended(0));
        v = Cases.withRoll("ba/ab", "M;Fa&0;Fb<0,1").v;
        Cases.due("one", 1, v.mended(0));
        Cases.due("the mother's, since he is a then and she b", 2, v.mended(1));
    }

    static void promise16OneAloneIsAHouse() {
        NamedToWed v = Cases.withRoll("ab/ab", "Ma;F;Fb").v;
        Cases.due("none", 0, v.mended(0));
        Cases.due("which", 0, v.mended(1));
        Cases.due("not -2", 0, Cases.withRoll("ab/ab", "M").v.mended(0));
    }

    static void promise16OfEachHouse() {
        NamedToWed v = Cases.withRoll("ab/ab", "Ma;Mb;Fb&0;Fa&1;Ma;Fa&4").v;
        Cases.due("two", 2, v.mended(0));
        Cases.due("the wife's of a, the husband's that is b", 4 | 2, v.mended(1));
    }

    static void promise16All24() {
        NamedToWed v = Cases.withRoll("bac/abc", "Fa;Ma<-,0&0" + Cases.times(";Ma<-,0", 22)).v;
        Cases.due("all must be c", 24, v.mended(0));
        Cases.due("who", ALL, v.mended(1));
    }

    static void promise16MinusTwo() {
        NamedToWed v = Cases.withRoll("ba/ab", "Ma;Fa&0;F;M<-,2&2").v;
        Cases.due("how many", -2, v.mended(0));
        Cases.due("which", -2, v.mended(1));
        for (int bad : new int[] {-1, 2, Integer.MIN_VALUE, Integer.MAX_VALUE}) {
            Cases.due("mended " + bad, Cases.NONE, v.mended(bad));
        }
    }

    // ---- promise 17 ----

    static void promise17ByToldNamesOfBoth() {
        String[] rolls = {"M;F&0", "Ma;F&0", "M;Fa&0", "Ma;Fa&0", "Ma;Fb&0", "Fa;Mb&0", "Fb;Mb&0"};
        int[] wrong = {0, 0, 0, 1, 0, 0, 1};
        for (int i = 0; i < rolls.length; i++) {
            NamedToWed v = Cases.withRoll("ba/ab", rolls[i]).v;
            Cases.due("weddings of " + rolls[i], wrong[i], v.byTold(0));
            Cases.due("the first of " + rolls[i], wrong[i] == 0 ? -2 : 0, v.byTold(1));
        }
    }

    static void promise17AWomanFirst() {
        // The wife of a is b, of b c, of c a.
        Cases.due("she is his wife", 0, Cases.withRoll("bca/abc", "Fb;Ma&0").v.byTold(0));
        Cases.due("she is not", 1, Cases.withRoll("bca/abc", "Fa;Mb&0").v.byTold(0));
        Cases.due("he first", 0, Cases.withRoll("bca/abc", "Ma;Fb&0").v.byTold(0));
        Cases.due("he first", 1, Cases.withRoll("bca/abc", "Mb;Fa&0").v.byTold(0));
    }

    static void promise17ChildrenOfTheirMothersAlone() {
        String[] rolls = {"F;M<-,0", "Fa;M<-,0", "F;Ma<-,0", "Fa;Mb<-,0", "Fa;Ma<-,0", "Ma;Mb<0,-", "Ma;Ma<0,-", "Mb;Fa;Mb<0,1",
            "Fa;Fc<-,0"};
        int[] wrong = {0, 0, 0, 0, 1, 0, 0, 0, 1};
        for (int i = 0; i < rolls.length; i++) {
            NamedToWed v = Cases.withRoll("acb/bca", rolls[i]).v;
            Cases.due("children of " + rolls[i], wrong[i], v.byTold(2));
            Cases.due("the first of " + rolls[i], wrong[i] == 0 ? -2 : 1, v.byTold(3));
        }
    }

    static void promise17OfNamesAndNumbersThatAreNot0() {
        NamedToWed v = Cases.withRoll("acb/bca", "M;M;Fb;Mb<1,2;Mc<1,2;Mb<-,2").v;
        Cases.due("children", 2, v.byTold(2));
        Cases.due("the first", 3, v.byTold(3));
        v = Cases.withRoll("bca/abc", "M;F;Mc;Fc&2;Fb;Mc&4").v;
        Cases.due("weddings", 2, v.byTold(0));
        Cases.due("the first", 2, v.byTold(1));
    }

    static void promise17AWeddingByTheLowerNumber() {
        NamedToWed v = Cases.withRoll("ab/ab", "M;Ma;Ma;Fb&2;Fb&1").v;
        Cases.due("two", 2, v.byTold(0));
        Cases.due("the first", 1, v.byTold(1));
    }

    static void promise17AllOfThem() {
        StringBuilder text = new StringBuilder("Ma;Fb&0");
        for (int p = 2; p < 24; p += 2) {
            text.append(";Ma;Fb&").append(p);
        }
        Cases.due("twelve", 12, Cases.withRoll("ab/ab", text.toString()).v.byTold(0));
        Cases.due("23 children", 23, Cases.withRoll("ab/ab", "Fa" + Cases.times(";Mb<-,0", 23)).v.byTold(2));
    }

    static void promise17NoneAndNoSuchWhat() {
        NamedToWed v = new NamedToWed();
        int[] due = {0, -2, 0, -2};
        for (int what = 0; what < 4; what++) {
            Cases.due("with no roll " + what, due[what], v.byTold(what));
        }
        for (int bad : new int[] {-1, 4, Integer.MIN_VALUE, Integer.MAX_VALUE}) {
            Cases.due("byTold " + bad, Cases.NONE, v.byTold(bad));
        }
    }

    // ---- promise 18 ----

    static void promise18TheLongest() {
        Teller t = Cases.withRoll("ab/ab", line());
        Cases.due("steps", 23, t.v.whatIs(23, 0, 100));
        Cases.due("up", Cases.times("f", 23), t.whatIs(23, 0));
        Cases.due("down", Cases.times("s", 23), t.whatIs(0, 23));
        Cases.due("the last step", 's', t.v.whatIs(0, 23, 22));
        Cases.due("no more", -4, t.v.whatIs(0, 23, 23));
        Cases.due("no such what", Cases.NONE, t.v.whatIs(0, 23, 24));
    }

    static void promise18HimselfNoSteps() {
        Teller t = Cases.withRoll("ab/ab", "M;M<0,-");
        for (int p = 0; p < 2; p++) {
            Cases.due("steps", 0, t.v.whatIs(p, p, 100));
            Cases.due("a step", -4, t.v.whatIs(p, p, 0));
        }
    }

    static void promise18MinusTwoAheadOfMinusFour() {
        Teller t = Cases.withRoll("ab/ab", "M;F");
        Cases.due("steps", -2, t.v.whatIs(0, 1, 100));
        Cases.due("step 0", -2, t.v.whatIs(0, 1, 0));
        Cases.due("step 23", -2, t.v.whatIs(0, 1, 23));
        Cases.due("none ahead of it", Cases.NONE, t.v.whatIs(0, 1, 24));
    }

    static void promise18NoSuchOnes() {
        Teller t = Cases.withRoll("ab/ab", "M;F&0");
        for (int bad : new int[] {-1, 2, 24, Integer.MIN_VALUE, Integer.MAX_VALUE}) {
            Cases.due("from " + bad, Cases.NONE, t.v.whatIs(bad, 0, 100));
            Cases.due("to " + bad, Cases.NONE, t.v.whatIs(0, bad, 100));
        }
        for (int bad : new int[] {-1, 24, 99, 101, Integer.MIN_VALUE, Integer.MAX_VALUE}) {
            Cases.due("what " + bad, Cases.NONE, t.v.whatIs(0, 1, bad));
        }
        Cases.due("with no roll", Cases.NONE, new NamedToWed().whatIs(0, 0, 100));
    }

    static void promise18EachStep() {
        Teller t = Cases.withRoll("ab/ab", "M;F&0;M<0,1;F<0,1");
        String[] due = {"", "w", "s", "d", "h", "", "s", "d", "f", "m", "", "z", "f", "m", "b", ""};
        for (int p = 0; p < 4; p++) {
            for (int q = 0; q < 4; q++) {
                Cases.due("from " + p + " to " + q, due[4 * p + q], t.whatIs(p, q));
            }
        }
    }

    static void promise18TheLeastRow() {
        // A wife who is a daughter, too, a husband who is a son: w ahead of d, h of s.
        Teller t = Cases.withRoll("ab/ab", "M;F<0,-&0;F;M<-,2&2");
        Cases.due("wife and daughter", "w", t.whatIs(0, 1));
        Cases.due("father and husband", "f", t.whatIs(1, 0));
        Cases.due("husband and son", "h", t.whatIs(2, 3));
        Cases.due("mother and wife", "m", t.whatIs(3, 2));
        // A sister's and a wife's: w ahead of z.
        Teller wed = Cases.withRoll("ab/ab", "M;M<0,-;F<0,-&1");
        Cases.due("wife and sister", "w", wed.whatIs(1, 2));
        Cases.due("husband and brother", "h", wed.whatIs(2, 1));
        Cases.due("son ahead of daughter", "s", wed.whatIs(0, 1));
    }

    static void promise18TheLeastRowOfAllToWhomItLeads() {
        // A son's daughter, but another son's wife, too: sw ahead of sd, though the first son is the lower one.
        Teller t = Cases.withRoll("ab/ab", "M;M<0,-;M<0,-;F<1,-&2");
        Cases.due("the second son's wife", "sw", t.whatIs(0, 3));
        Cases.due("up by the father", "ff", t.whatIs(3, 0));
        t = Cases.withRoll("ab/ab", "F;F<-,0;F<-,0;M<-,1&2");
        Cases.due("the second daughter's husband", "dh", t.whatIs(0, 3));
        // By a son and by a daughter: s ahead of d, whatever follows.
        t = Cases.withRoll("ab/ab", "M;F<0,-;M<0,-;M<2,-;F&3;M<3,1");
        Cases.due("a son's son's son", "ds", t.whatIs(0, 5));
        t = Cases.withRoll("ab/ab", "M;F<0,-;M<0,-;M<2,1");
        Cases.due("a son's son, not a daughter's", "ss", t.whatIs(0, 3));
        Cases.due("by the father", "ff", t.whatIs(3, 0));
    }

    static void promise18TheFewestAheadOfTheLeastRow() {
        Teller t = Cases.withRoll("ab/ab", "M;F&0;M<0,1;F<0,1;M<2,-;F<-,3");
        Cases.due("z ahead of fd", "z", t.whatIs(2, 3));
        Cases.due("a cousin by the parents' sister", "fzd", t.whatIs(4, 5));
        Cases.due("and back", "mbs", t.whatIs(5, 4));
    }

    static void promise18ABrotherIsAnotherOne() {
        // From one to his half brother's half brother: two brothers, not he himself.
        Teller t = Cases.withRoll("ab/ab", "M;F;M<0,-;M<0,1;M<-,1");
        Cases.due("half", "b", t.whatIs(2, 3));
        Cases.due("the other half", "b", t.whatIs(4, 3));
        Cases.due("brother's brother", "bb", t.whatIs(2, 4));
    }

    // ---- promise 19 ----

    static void promise19HimselfMayBeAmongThem() {
        Teller t = Cases.withRoll("ab/ab", "M;F&0;M<0,1;M<0,1");
        Cases.due("brothers' brothers", 4, t.those(2, "2b"));
        Cases.due("father's sons", 4 | 8, t.those(2, "fs"));
        Cases.due("wife's husband", 1, t.those(0, "wh"));
    }

    static void promise19NobodyToAll() {
        Teller t = Cases.withRoll("ab/ab", "F" + Cases.times(";M<-,0", 23));
        Cases.due("sons", ALL - 1, t.those(0, "s"));
        Cases.due("daughters", 0, t.those(0, "d"));
        Cases.due("daughters' sons", 0, t.those(0, "ds"));
        Cases.due("brothers of brothers", ALL - 1, t.those(1, "2b"));
        Cases.due("the mother", 1, t.those(23, "m"));
    }

    static void promise19AFaultAsOfOneOfHisSort() {
        Teller t = Cases.withRoll("ab/ab", "M;F");
        Cases.due("a man's h", -7000, t.those(0, "h"));
        Cases.due("a man's w", 0, t.those(0, "w"));
        Cases.due("a woman's w", -7000, t.those(1, "w"));
        Cases.due("a woman's h", 0, t.those(1, "h"));
        Cases.due("the tape is empty", 0, t.tape());
    }

    static void promise19OneToFortyBytes() {
        String forty = Cases.times("(b)", 8) + Cases.times("b", 16);
        Teller t = Cases.withRoll("ab/ab", "M;M<0,-;M<0,-");
        Cases.due("40", 2, t.those(1, forty));
        t.feed(forty + "b");
        for (int bad : new int[] {0, -1, 41, 61, Integer.MIN_VALUE, Integer.MAX_VALUE}) {
            Cases.due("n " + bad, Cases.NONE, t.v.those(1, bad));
            Cases.due("the tape stays", 60, t.tape());
        }
        t.empty();
        Cases.due("it has not so many", Cases.NONE, t.v.those(1, 1));
    }

    static void promise19NoSuchOnes() {
        Teller t = Cases.withRoll("ab/ab", "M;F");
        for (int bad : new int[] {-1, 2, 24, Integer.MIN_VALUE, Integer.MAX_VALUE}) {
            t.empty();
            Cases.due("p " + bad, Cases.NONE, t.those(bad, "!"));
            Cases.due("the tape stays", 20, t.tape());
        }
        Teller none = new Teller();
        Cases.due("with no roll", Cases.NONE, none.those(0, "f"));
        Cases.due("the tape stays", 20, none.tape());
    }

    // ---- promise 20 ----

    static void promise19EachStepAlone() {
        Teller t = Cases.withRoll("ab/ab", "M;F&0;M<0,1;F<0,1;M<0,1;F<0,1;M;F");
        String[] steps = {"f", "m", "h", "s", "d", "b", "z"};
        int[] ofTheLastDaughter = {1, 2, 0, 0, 0, 4 | 16, 8};
        int[] ofTheMother = {0, 0, 1, 4 | 16, 8 | 32, 0, 0};
        for (int i = 0; i < steps.length; i++) {
            Cases.due(steps[i], ofTheLastDaughter[i], t.those(5, steps[i]));
            Cases.due(steps[i], ofTheMother[i], t.those(1, steps[i]));
            Cases.due(steps[i], 0, t.those(7, steps[i]));
        }
        Cases.due("w", 2, t.those(0, "w"));
        Cases.due("zb", 4 | 16, t.those(2, "zb"));
    }

    static void promise20NoSuchOne() {
        NamedToWed v = Cases.withRoll("ab/ab", "M;F").v;
        for (int bad : new int[] {-1, 2, 24, Integer.MIN_VALUE, Integer.MAX_VALUE}) {
            Cases.due("p " + bad, Cases.NONE, v.mayWed(bad));
        }
        Cases.due("with no roll", Cases.NONE, new NamedToWed().mayWed(0));
    }

    static void promise20OneWhoIsWedZero() {
        NamedToWed v = Cases.withRoll("ab/ab", "M;F&0;M;F").v;
        Cases.due("a husband", 0, v.mayWed(0));
        Cases.due("a wife", 0, v.mayWed(1));
        Cases.due("unwed ones alone", 8, v.mayWed(2));
        Cases.due("unwed ones alone", 4, v.mayWed(3));
    }

    static void promise20NobodyToAll() {
        NamedToWed v = Cases.withRoll("ab/ab", "M" + Cases.times(";F", 23)).v;
        Cases.due("all others", ALL - 1, v.mayWed(0));
        Cases.due("he", 1, v.mayWed(23));
        Cases.due("nobody", 0, Cases.withRoll("ab/ab", Cases.times("M;", 23) + "M").v.mayWed(0));
    }

    static void promise20OfAWrongHouseNobody() {
        NamedToWed v = Cases.withRoll("ab/ab", "Ma;Mb<0,-;F;F").v;
        Cases.due("he of a wrong house", 0, v.mayWed(1));
        Cases.due("she, whom none of it weds", 0, v.mayWed(2));
        Cases.due("with the father unwed, too", 0, v.mayWed(0));
    }

    static void promise20OneNameThatGoesWithOne() {
        // The wife of a is b, of b c, of c a. By weddings untold ones may be some names alone.
        NamedToWed v = Cases.withRoll("bca/abc", "Ma;Fa;Fb;Fc;F;Mb;Mc;M").v;
        int[] due = {4 | 16, 64 | 128, 1 | 128, 32 | 128, 1 | 32 | 64 | 128, 8 | 16, 2 | 16, 2 | 4 | 8 | 16};
        for (int p = 0; p < due.length; p++) {
            Cases.due("may wed " + p, due[p], v.mayWed(p));
        }
        NamedToWed some = Cases.withRoll("badc/bacd", "F;M<-,0&0;F<1,0;Ma;Mb;Mc;Md").v;
        Cases.due("a or b goes with b or a", 8 | 16, some.mayWed(2));
        Cases.due("c does not", 0, some.mayWed(5));
    }

    static void promise20NeitherChildNorParentNorSibling() {
        NamedToWed v = Cases.withRoll("ab/ab", "M;F;M<0,1;F<0,1;F<2,-;M<-,3").v;
        Cases.due("not a daughter, but a granddaughter", 2 | 16, v.mayWed(0));
        Cases.due("not a son, but a grandson", 1 | 32, v.mayWed(1));
        Cases.due("not a mother, sister, daughter", 0, v.mayWed(2));
        Cases.due("not a father, brother, son", 0, v.mayWed(3));
        Cases.due("not a father, but cousin and grandfather", 1 | 32, v.mayWed(4));
        Cases.due("not a mother, but cousin and grandmother", 2 | 16, v.mayWed(5));
        NamedToWed half = Cases.withRoll("ab/ab", "M;F;M<0,-;F<0,1;M<-,1").v;
        Cases.due("not a half sister", 2, half.mayWed(2));
        Cases.due("not a half sister", 0, half.mayWed(4));
    }

    // ---- promise 21 ----

    static void promise21NoneToTwelve() {
        Cases.due("with no roll", 0, new NamedToWed().weddings());
        Cases.due("men alone", 0, Cases.withRoll("ab/ab", Cases.times("M;", 23) + "M").v.weddings());
        Cases.due("twelve", 12, Cases.withRoll("ab/ab", strangers()).v.weddings());
        Cases.due("eleven", 11, Cases.withRoll("ab/ab", Cases.times("M;", 13) + Cases.times("F;", 10) + "F").v.weddings());
        Cases.due("one", 1, Cases.withRoll("ab/ab", "M" + Cases.times(";F", 23)).v.weddings());
        Cases.due("all are wed", 0, Cases.withRoll("ab/ab", "M;F&0").v.weddings());
    }

    static void promise21TheMostAtOnce() {
        // Each man but the last may wed two; all have wives if each gives way for the next.
        Cases.due("all give way", 5, Cases.withRoll("abcdef/abcdef",
                "M;M;M;M;Ma;Fa;Fb;Fc;Fd;Fe").v.weddings());
        // Untold men are taken first, told ones can have but one.
        Cases.due("told ones behind", 4, Cases.withRoll("abcd/abcd", "M;M;Ma;Mb;Fa;Fb;Fc;Fd").v.weddings());
        Cases.due("two for one", 3, Cases.withRoll("abcd/abcd", "M;Ma;Ma;Mb;Fa;Fb;Fc").v.weddings());
    }

    static void promise21WomenFirst() {
        Cases.due("two", 2, Cases.withRoll("ab/ab", "F;F;M;M").v.weddings());
        Cases.due("by names", 1, Cases.withRoll("ab/ab", "Fa;Fb;Ma;Ma").v.weddings());
        Cases.due("the first woman", 1, Cases.withRoll("ab/ab", "Fa;Fb;Fb;Ma").v.weddings());
    }

    /** The most pairs, by trying for each from this one on to leave him, or to wed him to each who is left. */
    private static int most(int[] may, int p, int taken) {
        if (p == may.length) {
            return 0;
        }
        int best = most(may, p + 1, taken);
        for (int q = 0; q < may.length; q++) {
            if ((may[p] & ~taken & 1 << q) != 0) {
                best = Math.max(best, 1 + most(may, p + 1, taken | 1 << q));
            }
        }
        return best;
    }

    static void promise21TheMostOfThoseWhoMayWed() {
        Random random = new Random(21);
        for (int run = 0; run < 400; run++) {
            StringBuilder text = new StringBuilder("M;F");
            for (int p = 2; p < 12; p++) {
                text.append(random.nextBoolean() ? ";M" : ";F");
                if (random.nextInt(5) < 3) {
                    text.append((char) ('a' + random.nextInt(4)));
                }
                // Brothers and sisters are ruled out: so each has others whom he may wed.
                if (random.nextInt(3) == 0) {
                    text.append("<0,1");
                }
            }
            NamedToWed v = Cases.withRoll("abcd/abcd", text.toString()).v;
            int[] may = new int[12];
            for (int p = 0; p < 12; p++) {
                may[p] = v.personIs(p, 0) == 0 ? v.mayWed(p) : 0;
            }
            Cases.due("weddings of " + text, most(may, 0, 0), v.weddings());
        }
    }

    // ---- promise 22 ----

    static void promise22OfALineOf24() {
        NamedToWed v = Cases.withRoll("ab/ab", line()).v;
        for (int p = 0; p < 24; p++) {
            Cases.due("from " + p, 23 - p, v.line(p, 0));
            Cases.due("ahead of " + p, p, v.line(p, 1));
            Cases.due("generation of " + p, p, v.line(p, 2));
        }
    }

    static void promise22EachOnce() {
        NamedToWed v = Cases.withRoll("ab/ab", "M;F;M<0,1;F<0,1;M<2,3;F<2,3;M<4,5").v;
        int[][] due = {{5, 0, 0}, {5, 0, 0}, {3, 2, 1}, {3, 2, 1}, {1, 4, 2}, {1, 4, 2}, {0, 6, 3}};
        for (int p = 0; p < due.length; p++) {
            for (int what = 0; what < 3; what++) {
                Cases.due("line " + p + " " + what, due[p][what], v.line(p, what));
            }
        }
    }

    static void promise22TheMostSteps() {
        NamedToWed v = Cases.withRoll("ab/ab", "M;M<0,-;F<1,-;M<0,2;F;M<3,4;F<0,-;M<3,6").v;
        int[] due = {0, 1, 2, 3, 0, 4, 1, 4};
        for (int p = 0; p < due.length; p++) {
            Cases.due("generation of " + p, due[p], v.line(p, 2));
        }
    }

    static void promise22ToldParentsAlone() {
        NamedToWed v = Cases.withRoll("ab/ab", "M;F&0;M<-,-;F<0,-").v;
        Cases.due("unknown ones are none", 0, v.line(2, 1));
        Cases.due("generation", 0, v.line(2, 2));
        Cases.due("his child is not hers", 0, v.line(1, 0));
        Cases.due("a father alone", 1, v.line(3, 1));
    }

    static void promise22NoSuchOnes() {
        NamedToWed v = Cases.withRoll("ab/ab", "M;F").v;
        for (int bad : new int[] {-1, 2, 24, Integer.MIN_VALUE, Integer.MAX_VALUE}) {
            Cases.due("p " + bad, Cases.NONE, v.line(bad, 0));
        }
        for (int bad : new int[] {-1, 3, Integer.MIN_VALUE, Integer.MAX_VALUE}) {
            Cases.due("what " + bad, Cases.NONE, v.line(0, bad));
        }
        Cases.due("with no roll", Cases.NONE, new NamedToWed().line(0, 0));
    }

    // ---- promise 32, of people ----

    static void promise32MenAndWedOnesBits() {
        NamedToWed v = Cases.withRoll("ab/ab", strangers()).v;
        Cases.due("people", 24, v.count(2));
        Cases.due("men", 0x555555, v.count(3));
        Cases.due("wed", 0, v.count(4));
        NamedToWed men = Cases.withRoll("ab/ab", Cases.times("M;", 23) + "F&22").v;
        Cases.due("men", ALL >> 1, men.count(3));
        Cases.due("wed", 3 << 22, men.count(4));
    }
}
