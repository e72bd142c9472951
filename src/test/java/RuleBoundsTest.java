/** The bounds of A RULE and of rule (promise 5): each case asks one sentence of the document. */
public final class RuleBoundsTest {
    private RuleBoundsTest() {
    }

    public static void main(String[] args) {
        Cases.run(RuleBoundsTest.class);
    }

    private static void reads(String text, int due) {
        Teller t = new Teller();
        Cases.due("rule " + text, due, t.rule(text));
        Cases.due("the tape behind " + text, 0, t.tape());
        Cases.due("names behind " + text, Math.max(due, 0), t.v.count(1));
    }

    private static boolean isIn(String signs, int c) {
        return signs.indexOf(c) >= 0;
    }

    static void ruleNoneAtFirst() {
        Cases.due("names", 0, new NamedToWed().count(1));
        Cases.due("ways", Cases.NONE, new NamedToWed().ways(0));
    }

    static void ruleHasTwoToSixNames() {
        reads("a/a", -1001);
        reads("ab/ab", 2);
        reads("abc/abc", 3);
        reads("abcd/abcd", 4);
        reads("abcde/abcde", 5);
        reads("abcdef/abcdef", 6);
        reads("abcdefg/abcdefg", -1006);
    }

    static void ruleTellsWivesThenChildren() {
        NamedToWed v = Cases.withRule("bcdefa/fabcde").v;
        for (int name = 0; name < 6; name++) {
            Cases.due("wife of " + name, (name + 1) % 6, v.nameIs(name, 4));
            Cases.due("child of " + name, (name + 5) % 6, v.nameIs(name, 5));
        }
    }

    static void ruleOfAtMostTwentyBytes() {
        Teller t = new Teller();
        t.feed("ab/ab" + Cases.times(" ", 16));
        Cases.due("rule(21)", Cases.NONE, t.v.rule(21));
        Cases.due("the tape stays", 40, t.tape());
        Cases.due("rule(20)", -1005, t.v.rule(20));
        Cases.due("the tape is empty", 0, t.tape());
    }

    static void ruleNoBlanks() {
        reads(" ab/ab", -1000);
        reads("a b/ab", -1001);
        reads("ab /ab", -1002);
        reads("ab/ ab", -1003);
        reads("ab/a b", -1004);
        reads("ab/ab ", -1005);
    }

    static void ruleFault1AtTheFirstByte() {
        for (int c = 0; c < 256; c++) {
            reads((char) c + "!", isIn("abcdef", c) ? -1001 : -1000);
        }
    }

    static void ruleFault1AheadOfTheSlash() {
        for (int c = 0; c < 256; c++) {
            reads("ab" + (char) c + "!", isIn("ab", c) ? -6002 : isIn("cdef/", c) ? -1003 : -1002);
        }
    }

    static void ruleFault1BehindTheSlash() {
        for (int c = 0; c < 256; c++) {
            reads("ab/" + (char) c + "!", isIn("ab", c) ? -1004 : isIn("cdef", c) ? -3003 : -1003);
        }
    }

    static void ruleFault1BehindAsManyLetters() {
        for (int c = 0; c < 256; c++) {
            reads("ab/ba" + (char) c, -1005);
        }
        reads("abcdef/abcdefa", -1013);
    }

    static void ruleFault1TheEnd() {
        String whole = "fedcba/bcdefa";
        for (int n = 1; n < whole.length(); n++) {
            reads(whole.substring(0, n), -1000 - n);
        }
        reads(whole, 6);
    }

    static void ruleFault1FewerThanTwo() {
        reads("/", -1000);
        reads("/ab", -1000);
        reads("a/", -1001);
        reads("f/a", -1001);
        reads("ab/", -1003);
    }

    static void ruleFault1ASeventh() {
        reads("abcdef/", -1007);
        reads("abcdefg", -1006);
        // The seventh is also a letter twice, at the same place: it can't stand there.
        reads("abcdefa", -1006);
        reads("abcdeff", -1006);
    }

    static void ruleFault3AheadIsAskedAtTheSlash() {
        reads("ac", -1002);
        reads("ac!", -1002);
        reads("ac/", -3001);
        reads("ac/!", -3001);
        reads("acb/", -1004);
        reads("adb/", -3001);
        reads("abcde/", -1006);
        reads("abcdf/", -3004);
    }

    static void ruleFault3OfTwoTheFirst() {
        reads("ef/ab", -3000);
        reads("aef/abc", -3001);
        reads("fa/cd", -3000);
        reads("ab/cd", -3003);
        reads("ab/ac", -3004);
    }

    static void ruleFault3JustBeyondSoManyNames() {
        for (int n = 2; n < 6; n++) {
            String most = "abcdef".substring(0, n);
            String beyond = most.substring(0, n - 1) + "abcdef".charAt(n);
            reads(most + "/" + most, n);
            reads(beyond + "/" + most, -3000 - (n - 1));
            reads(most + "/" + beyond, -3000 - 2 * n);
        }
    }

    static void ruleFault6AtTheSecondOne() {
        reads("aa", -6001);
        reads("aba", -6002);
        reads("abcdea", -6005);
        reads("abcdee", -6005);
        reads("ab/aa", -6004);
        reads("ab/bb", -6004);
        reads("abcdef/abcdea", -6012);
    }

    static void ruleFault6AheadOf3() {
        reads("cc/ab", -6001);
        reads("fcf/abc", -6002);
        reads("ffa", -6001);
        // Behind the slash each is asked where it stands, from the left.
        reads("ab/cc", -3003);
        reads("ab/aac", -6004);
    }

    static void ruleALetterOnEachSideIsNotTwice() {
        reads("ab/ab", 2);
        reads("ba/ba", 2);
    }

    static void ruleFirstFaultFromTheLeft() {
        reads("a!a", -1001);
        reads("aa!", -6001);
        reads("ac/!b", -3001);
        reads("ab/c!", -3003);
        reads("ab/!c", -1003);
        reads("ab/aa!", -6004);
        reads("ab/ab!a", -1005);
    }

    static void ruleANewOneEmptiesTheVillage() {
        Teller t = Cases.withRule("ab/ab");
        t.v.people(0, 1, 2, 3);
        t.v.people(1, 9999, 9999, 9999);
        Cases.due("the same rule", 2, t.rule("ab/ab"));
        Cases.due("all", 0, t.v.count(8));
        for (int name = 0; name < 2; name++) {
            for (int what = 0; what < 4; what++) {
                Cases.due("name " + name + " " + what, 0, t.v.nameIs(name, what));
            }
        }
    }

    static void ruleANewOneTheYearStays() {
        Teller t = Cases.withRule("ab/ab");
        t.v.years(7);
        int x = t.v.count(7);
        Cases.due("rule", 3, t.rule("abc/abc"));
        Cases.due("the year", 7, t.v.count(0));
        Cases.due("X", x, t.v.count(7));
    }

    static void ruleANewOneForgetsToldNamesThatAreNoMore() {
        Teller t = Cases.withRoll("abcdef/abcdef", "Ma;Mb;Mc;Md;Me;Mf;M");
        for (int names = 5; names >= 2; names--) {
            String letters = "abcdef".substring(0, names);
            Cases.due("rule", names, t.rule(letters + "/" + letters));
            for (int p = 0; p < 7; p++) {
                Cases.due(names + " names, told " + p, p < names ? p : -2, t.v.personIs(p, 1));
                Cases.due(names + " names, may be " + p, p < names ? 1 << p : (1 << names) - 1, t.v.personIs(p, 7));
            }
        }
        t.rule("abcdef/abcdef");
        for (int p = 0; p < 7; p++) {
            Cases.due("six again, told " + p, p < 2 ? p : -2, t.v.personIs(p, 1));
        }
    }

    static void ruleANewOneForgetsToldNamesFarBeyond() {
        Teller t = Cases.withRoll("abcdef/abcdef", "Ma;Mb;Mc;Md;Me;Mf;M");
        t.rule("ab/ab");
        for (int p = 0; p < 7; p++) {
            Cases.due("told " + p, p < 2 ? p : -2, t.v.personIs(p, 1));
            Cases.due("may be " + p, p < 2 ? 1 << p : 3, t.v.personIs(p, 7));
        }
    }

    static void ruleANewOneSettlesTheHousesAnew() {
        Teller t = Cases.withRoll("ab/ab", "Ma;Fa&0");
        Cases.due("right", 0, t.v.houses(1));
        t.rule("ba/ab");
        Cases.due("wrong", 1, t.v.houses(1));
        t.rule("ab/ab");
        Cases.due("right again", 0, t.v.houses(1));
    }

    static void promise5ANewRuleLeavesLawRollKeptAndSeed() {
        Teller t = Cases.withRoll("ab/ab", "Ma;Fa&0");
        t.law("x(n=0)");
        t.v.seed(4711);
        t.v.keep();
        t.rule("ba/ab");
        Cases.due("clauses", 1, t.v.count(5));
        Cases.due("people", 2, t.v.count(2));
        Cases.due("X", 4711, t.v.count(7));
        Cases.due("kept", true, t.v.undo());
    }

    static void promise5NothingIsLeftOfThoseBefore() {
        Teller t = new Teller();
        for (int i = 0; i < 6; i++) {
            Cases.due("six", 6, t.rule("bcdefa/fabcde"));
            Cases.due("a fault", -6012, t.rule("fedcba/abcdea"));
            if (i % 2 == 0) {
                Cases.due("three", 3, t.rule("bca/abc"));
            }
            Cases.due("two", 2, t.rule("ba/ab"));
            Cases.due("names", 2, t.v.count(1));
            Cases.due("wife", 1, t.v.nameIs(0, 4));
            Cases.due("child", 0, t.v.nameIs(0, 5));
            Cases.due("ways", 2, t.v.ways(0));
            Cases.due("no third name", Cases.NONE, t.v.nameIs(2, 4));
        }
    }

    static void promise5AFaultAllStays() {
        Teller t = Cases.withRoll("abc/bca", "Ma;Fc;M");
        t.v.people(2, 3, 4, 5);
        for (String bad : new String[] {"!", "a", "ab/", "aa/", "ac/", "ab/ac", "ab/aa", "ab/ab!", "abcdefa"}) {
            Cases.due("a fault of " + bad, true, t.rule(bad) < -999);
            Cases.due("names", 3, t.v.count(1));
            Cases.due("child", 1, t.v.nameIs(0, 5));
            Cases.due("wife", 2, t.v.nameIs(2, 4));
            Cases.due("couples", 5, t.v.nameIs(2, 2));
            Cases.due("told", 2, t.v.personIs(1, 1));
        }
    }

    static void promise5NoneNoSuchNumber() {
        Teller t = new Teller();
        t.feed("ab/ab" + Cases.times(" ", 255));
        for (int n : new int[] {0, -1, 21, 22, 260, 261, Integer.MIN_VALUE, Integer.MAX_VALUE}) {
            Cases.due("rule(" + n + ")", Cases.NONE, t.v.rule(n));
        }
        Cases.due("the tape stays", 260, t.tape());
        Cases.due("its bytes, too", 2, t.v.rule(5));
    }

    static void promise5NoneTheTapeHasNotSoMany() {
        Teller t = new Teller();
        Cases.due("an empty tape", Cases.NONE, t.v.rule(1));
        Cases.due("an empty tape", Cases.NONE, t.v.rule(20));
        t.feed("ab/ab");
        Cases.due("all of the tape", -1005, t.v.rule(20));
        Cases.due("empty then", Cases.NONE, t.v.rule(1));
    }
}
