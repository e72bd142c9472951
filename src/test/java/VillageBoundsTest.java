/** The bounds of THE VILLAGE, a YEAR and its DRAWS, and of promises 1 to 3 and 23 to 32. */
public final class VillageBoundsTest {
    private static final int MEN = 0;
    private static final int WOMEN = 1;
    private static final int COUPLES = 2;

    private VillageBoundsTest() {
    }

    public static void main(String[] args) {
        Cases.run(VillageBoundsTest.class);
    }

    /** X after so many draws. */
    private static int drawn(int seed, int draws) {
        long x = seed;
        for (int i = 0; i < draws; i++) {
            x = (25173L * x + 13849L) % 65536L;
        }
        return (int) x;
    }

    private static void isOf(Teller t, int name, int men, int women, int couples) {
        Cases.due("men of " + name, men, t.v.nameIs(name, MEN));
        Cases.due("women of " + name, women, t.v.nameIs(name, WOMEN));
        Cases.due("couples of " + name, couples, t.v.nameIs(name, COUPLES));
    }

    /** A village in the last year but so many. */
    private static Teller lateBy(int years) {
        Teller t = Cases.withRule("ba/ab");
        for (int i = 0; i < 99; i++) {
            t.v.years(100);
        }
        for (int left = 99 - years; left > 0; left -= 50) {
            t.v.years(Math.min(50, left));
        }
        Cases.due("the year", 9999 - years, t.v.count(0));
        return t;
    }

    // ---- promises 1 to 3 ----

    static void promise1ANewObjectHasNothing() {
        NamedToWed v = new NamedToWed();
        int[] due = {0, 0, 0, 0, 0, 0, 0, 1, 0};
        for (int what = 0; what < due.length; what++) {
            Cases.due("count " + what, due[what], v.count(what));
        }
        Cases.due("NONE", -1, NamedToWed.NONE);
    }

    static void promise1TwoObjectsHaveNothingInCommon() {
        Teller one = Cases.withRoll("ab/ab", "Ma");
        one.law("x(n=0)");
        one.v.people(0, 1, 1, 1);
        one.v.years(1);
        one.v.keep();
        NamedToWed other = new NamedToWed();
        for (int what = 0; what < 9; what++) {
            Cases.due("count " + what, what == 7 ? 1 : 0, other.count(what));
        }
        Cases.due("undo", false, other.undo());
    }

    static void promise2EachFrom0To9999() {
        Teller t = Cases.withRule("ab/ab");
        int[] numbers = {0, 1, 9998, 9999};
        for (int i = 0; i < 4; i++) {
            Cases.due("people", true, t.v.people(1, numbers[i], numbers[3 - i], numbers[i ^ 1]));
            isOf(t, 1, numbers[i], numbers[3 - i], numbers[i ^ 1]);
        }
    }

    static void promise2FalseBeyondAndAllStays() {
        Teller t = Cases.withRule("ab/ab");
        t.v.people(1, 3, 4, 5);
        for (int bad : new int[] {-1, 10000, -9999, Integer.MIN_VALUE, Integer.MAX_VALUE}) {
            Cases.due("men " + bad, false, t.v.people(1, bad, 1, 1));
            Cases.due("women " + bad, false, t.v.people(1, 1, bad, 1));
            Cases.due("couples " + bad, false, t.v.people(1, 1, 1, bad));
            isOf(t, 1, 3, 4, 5);
        }
    }

    static void promise2FalseNoSuchName() {
        for (int names = 2; names <= 6; names++) {
            String letters = "abcdef".substring(0, names);
            NamedToWed v = Cases.withRule(letters + "/" + letters).v;
            Cases.due("the first of " + names, true, v.people(0, 1, 0, 0));
            Cases.due("the last of " + names, true, v.people(names - 1, 1, 0, 0));
            for (int bad : new int[] {-1, names, 6, Integer.MIN_VALUE, Integer.MAX_VALUE}) {
                Cases.due("name " + bad + " of " + names, false, v.people(bad, 1, 1, 1));
            }
            Cases.due("all", 2, v.count(8));
        }
        Cases.due("with no rule", false, new NamedToWed().people(0, 0, 0, 0));
    }

    static void promise3TwentyBytesEach() {
        NamedToWed v = new NamedToWed();
        for (int n = 1; n <= 13; n++) {
            Cases.due("feed", 20 * n, v.feed(n, 0, 0, 0, 0));
            Cases.due("the tape", 20 * n, v.count(6));
        }
    }

    static void promise3NoneMoreThan260() {
        Teller t = new Teller();
        t.feed(Cases.times("!", 240) + "ab/ab" + Cases.times("!", 15));
        Cases.due("the fourteenth", Cases.NONE, t.v.feed(0, 0, 0, 0, 0));
        Cases.due("again", Cases.NONE, t.v.feed(-1, -1, -1, -1, -1));
        Cases.due("the tape stays", 260, t.tape());
        Cases.due("its bytes, too", -1000, t.v.law(240));
        Cases.due("empty then", 20, t.v.feed(0, 0, 0, 0, 0));
    }

    static void promise3TheHighestByteFirst() {
        NamedToWed v = new NamedToWed();
        // ab/ab is 97 98 47 97 98.
        v.feed(0x61622f61, 0x62000000, 0, 0, 0);
        Cases.due("rule", 2, v.rule(5));
        v.feed(0x61626364, 0x65662f66, 0x65646362, 0x61000000, 0);
        Cases.due("rule", 6, v.rule(13));
        Cases.due("child", 5, v.nameIs(0, 5));
    }

    static void promise3BytesAbove127() {
        NamedToWed v = Cases.withRule("ab/ab").v;
        v.people(0, 255, 0, 0);
        v.people(1, 128, 0, 0);
        v.feed(0xff800000, 0, 0, 0, 0);
        Cases.due("255 and 128", Cases.NONE, v.check(2));
        v.feed(0x7f800000, 0, 0, 0, 0);
        Cases.due("127", 0, v.check(2));
    }

    static void promise3BehindWhatIsOnTheTape() {
        NamedToWed v = new NamedToWed();
        v.feed(0x78282828, 0x28282828, 0, 0, 0);
        v.feed(0, 0, 0, 0, 0);
        Cases.due("the first twenty", -5007, v.law(40));
        v.feed(0x78282020, 0x20202020, 0x20202020, 0x20202020, 0x20202028);
        v.feed(0x28282828, 0, 0, 0, 0);
        Cases.due("law", -1002, v.law(40));
    }

    // ---- a year ----

    static void yearWeddingsOfTheLesser() {
        int[][] rows = {{0, 9, 0}, {9, 0, 0}, {1, 9, 1}, {9, 1, 1}, {5, 5, 5}, {9999, 9999, 9999}, {9999, 9998, 9998}};
        for (int[] row : rows) {
            Teller t = Cases.withRule("ba/ab");
            t.law("w100(1=1);b0(1=1);d0(1=1)");
            t.v.people(0, row[0], 0, 0);
            t.v.people(1, 0, row[1], 0);
            Cases.due("weddings", row[2], t.v.years(1));
            isOf(t, 0, row[0] - row[2], 0, row[2]);
            isOf(t, 1, 0, row[1] - row[2], 0);
        }
    }

    static void yearWeddingsAreWhole() {
        int[][] rows = {{1, 99, 0}, {1, 100, 1}, {50, 1, 0}, {50, 2, 1}, {50, 3, 1}, {33, 3, 0}, {34, 3, 1}, {99, 100, 99}};
        for (int[] row : rows) {
            Teller t = Cases.withRule("ba/ab");
            t.law("w" + row[0] + "(1=1);b0(1=1);d0(1=1)");
            t.v.people(0, row[1], 0, 0);
            t.v.people(1, 0, row[1], 0);
            Cases.due(row[0] + " hundredths of " + row[1], row[2], t.v.tried(1, 0));
        }
    }

    static void yearWeddingsNoMoreThanTo9999Couples() {
        for (int couples = 9989; couples <= 9999; couples++) {
            Teller t = Cases.withRule("ba/ab");
            t.law("w100(1=1);b0(1=1);d0(1=1)");
            t.v.people(0, 10, 0, couples);
            t.v.people(1, 0, 9, 0);
            int due = Math.min(9, 9999 - couples);
            Cases.due("weddings", due, t.v.years(1));
            isOf(t, 0, 10 - due, 0, couples + due);
            isOf(t, 1, 0, 9 - due, 0);
        }
    }

    static void yearWeddingsOfOneOwnName() {
        Teller t = Cases.withRule("ab/ba");
        t.law("w100(1=1);b0(1=1);d0(1=1)");
        t.v.people(0, 3, 2, 1);
        t.v.people(1, 2, 3, 0);
        Cases.due("weddings", 4, t.v.years(1));
        isOf(t, 0, 1, 0, 3);
        isOf(t, 1, 0, 1, 2);
    }

    static void yearBirthsAreWholeAndOfTheChildsName() {
        // A couple of a: the wife is b, her child c.
        int[][] rows = {{1, 99, 0}, {1, 100, 1}, {40, 2, 0}, {40, 3, 1}, {300, 1, 3}, {299, 1, 2}};
        for (int[] row : rows) {
            Teller t = Cases.withRule("bca/acb");
            t.law("b" + row[0] + "(1=1);d0(1=1)");
            t.v.people(0, 0, 0, row[1]);
            Cases.due("births", row[2], t.v.tried(1, 1));
            t.v.years(1);
            Cases.due("children of the name c", row[2], t.v.nameIs(2, MEN) + t.v.nameIs(2, WOMEN));
            Cases.due("no others", 2 * row[1] + row[2], t.v.count(8));
        }
    }

    static void yearBirthsTheOddOneByTheDraw() {
        int boys = 0;
        for (int seed = 0; seed < 30; seed++) {
            Teller t = Cases.withRule("ba/ab");
            t.law("b100(1=1);d0(1=1)");
            t.v.people(0, 0, 0, 5);
            t.v.people(1, 0, 0, 4);
            t.v.seed(seed);
            int boy = drawn(seed, 3) % 10 % 2 == 0 ? 1 : 0;
            boys += boy;
            t.v.years(1);
            isOf(t, 1, 2 + boy, 3 - boy, 4);
            isOf(t, 0, 2, 2, 5);
        }
        Cases.due("both are seen", true, boys > 0 && boys < 30);
    }

    static void yearBirths9999UnwedAtMost() {
        for (int unwed = 9994; unwed <= 9999; unwed++) {
            Teller t = Cases.withRule("ba/ab");
            t.law("w0(1=1);b300(1=1);d0(1=1)");
            t.v.people(0, 0, 0, 2);
            t.v.people(1, unwed, 9993 + 9999 - unwed, 0);
            t.v.years(1);
            isOf(t, 1, Math.min(9999, unwed + 3), Math.min(9999, 9993 + 9999 - unwed + 3), 0);
        }
    }

    static void yearBirthsOfAllCouplesAsTheyAreBehindTheWeddings() {
        Teller t = Cases.withRule("ba/ab");
        t.law("w100(1=1);b100(1=1);d0(1=1)");
        t.v.people(0, 3, 4, 0);
        t.v.people(1, 4, 3, 0);
        Cases.due("children of seven couples", 7, t.v.tried(1, 1));
    }

    static void yearDeathsAreWhole() {
        int[][] rows = {{1, 99, 0}, {1, 100, 1}, {50, 1, 0}, {50, 2, 1}, {50, 3, 1}, {99, 1, 0}, {100, 1, 1}, {100, 9999, 9999},
            {99, 9999, 9899}};
        for (int[] row : rows) {
            Teller t = Cases.withRule("ba/ab");
            t.law("w0(1=1);b0(1=1);d" + row[0] + "(1=1)");
            t.v.people(0, row[1], 0, 0);
            Cases.due("men", row[2], t.v.tried(1, 2));
            t.v.people(0, 0, row[1], 0);
            Cases.due("women", row[2], t.v.tried(1, 2));
            t.v.people(0, 0, 0, row[1]);
            Cases.due("couples, both", 2 * row[2], t.v.tried(1, 2));
            t.v.people(0, row[1], row[1], row[1]);
            t.v.years(1);
            isOf(t, 0, row[1] - row[2], row[1] - row[2], row[1] - row[2]);
        }
    }

    static void yearDeathsAsTheyAreThen() {
        Teller t = Cases.withRule("ba/ab");
        t.law("w100(1=1);b300(1=1);d100(n=1)");
        t.v.people(0, 2, 0, 0);
        t.v.people(1, 0, 2, 0);
        // Two are wed, six children of b are born, and all six die; d is none of a: 2 of a hundred.
        Cases.due("deaths", 6, t.v.tried(1, 2));
        Cases.due("all then", 4, t.v.tried(1, 3));
        // The second name's letters see the first one's dead: a's couples are b's wives.
        t.law("w100(1=1);b0(1=1);d100(n=0|a=0);d0(1=1)");
        Cases.due("deaths", 4, t.v.tried(1, 2));
        t.v.people(1, 1, 2, 0);
        t.law("w100(1=1);b0(1=1);d100(n=0|a=1)");
        Cases.due("deaths", 5, t.v.tried(1, 2));
    }

    static void yearAllOfOneStepAheadOfTheNext() {
        // Weddings of all names, then births: b's weddings see no child of a's couples.
        Teller t = Cases.withRule("ba/ab");
        t.law("w100(1=1);b300(1=1);d0(1=1)");
        t.v.people(0, 1, 2, 0);
        t.v.people(1, 0, 1, 0);
        Cases.due("weddings", 1, t.v.tried(1, 0));
        Cases.due("in two years", 1 + 2, t.v.tried(2, 0));
    }

    static void yearADrawOfEachNameInEachStep() {
        for (int names = 2; names <= 6; names++) {
            String letters = "abcdef".substring(0, names);
            NamedToWed v = Cases.withRule(letters + "/" + letters).v;
            v.years(1);
            Cases.due("draws of an empty village", drawn(1, 3 * names), v.count(7));
            v.years(2);
            Cases.due("draws of three years", drawn(1, 9 * names), v.count(7));
        }
    }

    static void yearEachStepAskedWithItsOwnDraw() {
        for (int seed = 0; seed < 20; seed++) {
            Teller t = Cases.withRule("ba/ab");
            t.law("w100(q=" + drawn(seed, 2) % 10 + ");w0(1=1);b0(1=1);d0(1=1)");
            t.v.people(1, 9, 0, 0);
            t.v.people(0, 0, 9, 0);
            t.v.seed(seed);
            Cases.due("weddings of b by the second draw", 9, t.v.tried(1, 0));
            t.law("w0(1=1);b100(q=" + drawn(seed, 3) % 10 + "&n=0|n=1&q=" + drawn(seed, 4) % 10 + ");b0(1=1);d0(1=1)");
            t.v.people(0, 0, 0, 5);
            t.v.people(1, 0, 0, 6);
            Cases.due("births by the third and fourth", 11, t.v.tried(1, 1));
            t.law("w0(1=1);b0(1=1);d100(q=" + drawn(seed, 5) % 10 + "&n=0|n=1&q=" + drawn(seed, 6) % 10 + ");d0(1=1)");
            Cases.due("deaths by the fifth and sixth", 22, t.v.tried(1, 2));
            t.law("x(q=" + drawn(seed, 1) % 10 + "&n=0);w100(1=1)");
            t.v.people(0, 4, 0, 0);
            t.v.people(1, 0, 4, 0);
            Cases.due("no wedding of a by the first", 0, t.v.tried(1, 0));
        }
    }

    static void yearDrawsModulo65536() {
        for (int seed : new int[] {0, 1, 2, 3, 65533, 65534, 65535, 32767, 32768, 51687}) {
            NamedToWed v = Cases.withRule("ab/ab").v;
            v.seed(seed);
            v.years(1);
            Cases.due("X of seed " + seed, drawn(seed, 6), v.count(7));
            v.years(100);
            Cases.due("X of seed " + seed, drawn(seed, 606), v.count(7));
        }
        Cases.due("the first of 1", 39022, drawn(1, 1));
    }

    static void year9999AtMostThenNoneGoesBy() {
        Teller t = lateBy(1);
        Cases.due("one more", 0, t.v.years(1));
        Cases.due("the year", 9999, t.v.count(0));
        int x = t.v.count(7);
        t.v.people(0, 100, 0, 100);
        t.v.people(1, 0, 100, 0);
        Cases.due("none", 0, t.v.years(1));
        Cases.due("the year", 9999, t.v.count(0));
        Cases.due("no draw", x, t.v.count(7));
        isOf(t, 0, 100, 0, 100);
    }

    // ---- promises 23 to 32 ----

    static void promise23OneToAHundred() {
        NamedToWed v = Cases.withRule("ab/ab").v;
        Cases.due("1", 0, v.years(1));
        Cases.due("year", 1, v.count(0));
        Cases.due("99", 0, v.years(99));
        Cases.due("100", 0, v.years(100));
        Cases.due("year", 200, v.count(0));
        for (int bad : new int[] {0, -1, 101, Integer.MIN_VALUE, Integer.MAX_VALUE}) {
            Cases.due("years " + bad, Cases.NONE, v.years(bad));
        }
        Cases.due("year", 200, v.count(0));
        Cases.due("X", drawn(1, 1200), v.count(7));
    }

    static void promise23AsManyAsCan() {
        Teller t = lateBy(3);
        t.law("w50(1=1);b0(1=1);d0(1=1)");
        t.v.people(0, 16, 0, 0);
        t.v.people(1, 0, 16, 0);
        int x = t.v.count(7);
        Cases.due("three of five", 8 + 4 + 2, t.v.years(5));
        Cases.due("the year", 9999, t.v.count(0));
        Cases.due("X", drawn(x, 18), t.v.count(7));
    }

    static void promise23WeddingsOfAllTheseYearsAlone() {
        Teller t = Cases.withRule("ba/ab");
        t.law("w50(1=1);b0(1=1);d0(1=1)");
        t.v.people(0, 16, 0, 0);
        t.v.people(1, 0, 16, 0);
        Cases.due("first", 8, t.v.years(1));
        Cases.due("then two", 4 + 2, t.v.years(2));
        Cases.due("then one", 1, t.v.years(9));
        Cases.due("then none", 0, t.v.years(9));
    }

    static void promise23WithNoRule() {
        NamedToWed v = new NamedToWed();
        Cases.due("no weddings", 0, v.years(100));
        Cases.due("the year", 100, v.count(0));
        Cases.due("no draws", 1, v.count(7));
        Cases.due("no such number", Cases.NONE, v.years(0));
    }

    static void promise24WhatThereIs() {
        Teller t = Cases.withRule("bca/acb");
        t.law("w100(1=1);b300(1=1);d50(1=1)");
        t.v.people(0, 3, 2, 1);
        t.v.people(1, 1, 4, 0);
        for (int what = -2; what < 50; what++) {
            boolean is = what >= 0 && what <= 3 || what >= 10 && what <= 12 || what >= 20 && what <= 22 || what >= 30 && what <= 32;
            Cases.due("tried " + what, !is, t.v.tried(1, what) == Cases.NONE);
        }
        for (int what : Cases.FAR) {
            Cases.due("tried " + what, Cases.NONE, t.v.tried(1, what));
        }
    }

    static void promise24SixNames() {
        Teller t = Cases.withRule("abcdef/abcdef");
        for (int name = 0; name < 6; name++) {
            t.v.people(name, name, 10 + name, 20 + name);
        }
        t.law("w0(1=1);b0(1=1);d0(1=1)");
        for (int name = 0; name < 6; name++) {
            Cases.due("men", name, t.v.tried(1, 10 + name));
            Cases.due("women", 10 + name, t.v.tried(1, 20 + name));
            Cases.due("couples", 20 + name, t.v.tried(1, 30 + name));
        }
        for (int what : new int[] {4, 9, 16, 19, 26, 29, 36, 39, 40}) {
            Cases.due("tried " + what, Cases.NONE, t.v.tried(1, what));
        }
    }

    static void promise24OneToAHundred() {
        Teller t = Cases.withRule("ba/ab");
        t.v.people(0, 100, 100, 100);
        Cases.due("1", true, t.v.tried(1, 3) > 0);
        Cases.due("100", true, t.v.tried(100, 3) > 0);
        for (int bad : new int[] {0, -1, 101, Integer.MIN_VALUE, Integer.MAX_VALUE}) {
            Cases.due("tried " + bad, Cases.NONE, t.v.tried(bad, 3));
        }
    }

    static void promise24AsManyAsCan() {
        Teller t = lateBy(2);
        t.law("w50(1=1);b0(1=1);d0(1=1)");
        t.v.people(0, 16, 0, 0);
        t.v.people(1, 0, 16, 0);
        Cases.due("two of a hundred", 8 + 4, t.v.tried(100, 0));
        Cases.due("two of two", 8 + 4, t.v.tried(2, 0));
        Cases.due("one", 8, t.v.tried(1, 0));
        t.v.years(2);
        Cases.due("none", 0, t.v.tried(1, 0));
        Cases.due("all as they are", 32, t.v.tried(1, 3));
        Cases.due("men as they are", 4, t.v.tried(1, 10));
    }

    static void promise24NothingIsChanged() {
        Teller t = Cases.withRule("ba/ab");
        t.v.people(0, 100, 90, 80);
        t.v.people(1, 70, 60, 50);
        t.v.years(3);
        Teller same = Cases.withRule("ba/ab");
        same.v.people(0, 100, 90, 80);
        same.v.people(1, 70, 60, 50);
        same.v.years(3);
        t.v.tried(100, 0);
        t.v.tried(100, 3);
        for (int what = 0; what < 9; what++) {
            Cases.due("count " + what, same.v.count(what), t.v.count(what));
        }
        for (int name = 0; name < 2; name++) {
            isOf(t, name, same.v.nameIs(name, MEN), same.v.nameIs(name, WOMEN), same.v.nameIs(name, COUPLES));
        }
    }

    static void promise24ByTheDrawsThatWillCome() {
        Teller t = Cases.withRule("ba/ab");
        t.law("wq*10(1=1);bq*30(1=1);dq*5(1=1)");
        t.v.people(0, 1000, 900, 800);
        t.v.people(1, 700, 600, 500);
        int wed = t.v.tried(20, 0);
        int all = t.v.tried(20, 3);
        int couples = t.v.tried(20, 31);
        Cases.due("weddings", wed, t.v.years(20));
        Cases.due("all", all, t.v.count(8));
        Cases.due("couples", couples, t.v.nameIs(1, COUPLES));
    }

    static void promise24BirthsAlsoBeyond9999() {
        Teller t = Cases.withRule("ba/ab");
        t.law("w0(1=1);b300(1=1);d0(1=1)");
        t.v.people(0, 0, 0, 9999);
        t.v.people(1, 9999, 9999, 0);
        Cases.due("births", 29997, t.v.tried(1, 1));
        Cases.due("all then", 4 * 9999, t.v.tried(1, 3));
        Cases.due("in two years", 2 * 29997, t.v.tried(2, 1));
    }

    static void promise24ACoupleAreTwo() {
        Teller t = Cases.withRule("ba/ab");
        t.law("w0(1=1);b0(1=1);d100(1=1)");
        t.v.people(0, 1, 2, 4);
        Cases.due("deaths", 1 + 2 + 8, t.v.tried(1, 2));
        Cases.due("all then", 0, t.v.tried(1, 3));
    }

    static void promise24WithNoRule() {
        NamedToWed v = new NamedToWed();
        for (int what = 0; what < 4; what++) {
            Cases.due("tried " + what, 0, v.tried(100, what));
        }
        for (int what : new int[] {4, 10, 20, 30}) {
            Cases.due("tried " + what, Cases.NONE, v.tried(1, what));
        }
    }

    static void promise25OfANameInTheVillage() {
        Teller t = Cases.withRule("bca/cab");
        t.v.people(0, 9999, 9999, 9999);
        t.v.people(2, 0, 0, 9999);
        isOf(t, 0, 9999, 9999, 9999);
        Cases.due("all, with the wives of c's couples", 4 * 9999, t.v.nameIs(0, 3));
        Cases.due("the wives of a's couples", 9999, t.v.nameIs(1, 3));
        Cases.due("the husbands of c's couples", 9999, t.v.nameIs(2, 3));
    }

    static void promise25ACoupleOfOneNameAreTwo() {
        Teller t = Cases.withRule("ab/ab");
        t.v.people(0, 0, 0, 3);
        Cases.due("all", 6, t.v.nameIs(0, 3));
        Cases.due("none", 0, t.v.nameIs(1, 3));
    }

    static void promise25NoneNoSuchOnes() {
        for (int names = 2; names <= 6; names++) {
            String letters = "abcdef".substring(0, names);
            NamedToWed v = Cases.withRule(letters + "/" + letters).v;
            Cases.due("the last", names - 1, v.nameIs(names - 1, 4));
            Cases.due("beyond", Cases.NONE, v.nameIs(names, 4));
            Cases.due("below", Cases.NONE, v.nameIs(-1, 4));
            Cases.due("what 5", 0, v.nameIs(0, 5));
            Cases.due("what 6", Cases.NONE, v.nameIs(0, 6));
            Cases.due("what -1", Cases.NONE, v.nameIs(0, -1));
        }
        Cases.due("with no rule", Cases.NONE, new NamedToWed().nameIs(0, 0));
    }

    static void promise26ZeroItHas() {
        Teller t = Cases.withRule("ba/ab");
        Cases.due("a", 0, t.v.diesOut(0, 1));
        Cases.due("a", 0, t.v.diesOut(0, 100));
        t.v.people(0, 1, 0, 0);
        Cases.due("b", 0, t.v.diesOut(1, 100));
        Cases.due("a, with one man", -2, t.v.diesOut(0, 1));
    }

    static void promise26UnwedOrWed() {
        int[][] some = {{1, 0, 0}, {0, 1, 0}, {0, 0, 1}};
        for (int[] row : some) {
            Teller t = Cases.withRule("ba/ab");
            t.law("b0(1=1);d0(1=1)");
            t.v.people(0, row[0], row[1], row[2]);
            Cases.due("a", -2, t.v.diesOut(0, 100));
            Cases.due("b, wed to one of a", row[2] == 1 ? -2 : 0, t.v.diesOut(1, 100));
        }
    }

    static void promise26BehindHowManyFirst() {
        Teller t = Cases.withRule("ba/ab");
        t.law("d100(t=4);d0(1=1);w0(1=1);b100(t=6);b0(1=1)");
        t.v.people(0, 1, 0, 0);
        t.v.people(1, 0, 1, 1);
        Cases.due("behind the fifth", 5, t.v.diesOut(0, 5));
        Cases.due("also of more", 5, t.v.diesOut(0, 100));
        Cases.due("not in four", -2, t.v.diesOut(0, 4));
        t.law("d100(t=99);d0(1=1);w0(1=1);b0(1=1)");
        Cases.due("behind the last", 100, t.v.diesOut(0, 100));
        Cases.due("not in 99", -2, t.v.diesOut(0, 99));
        Cases.due("nothing is changed", 0, t.v.count(0));
        isOf(t, 1, 0, 1, 1);
    }

    static void promise26OneToAHundredAndNames() {
        Teller t = Cases.withRule("ba/ab");
        for (int bad : new int[] {0, -1, 101, Integer.MIN_VALUE, Integer.MAX_VALUE}) {
            Cases.due("years " + bad, Cases.NONE, t.v.diesOut(0, bad));
        }
        for (int bad : new int[] {-1, 2, 6, Integer.MIN_VALUE, Integer.MAX_VALUE}) {
            Cases.due("name " + bad, Cases.NONE, t.v.diesOut(bad, 1));
        }
        Cases.due("with no rule", Cases.NONE, new NamedToWed().diesOut(0, 1));
    }

    static void promise26InTheLastYears() {
        Teller t = lateBy(1);
        t.law("d50(t=98);d100(1=1);w0(1=1)");
        t.v.people(0, 2, 0, 0);
        Cases.due("but one year goes by", -2, t.v.diesOut(0, 100));
        t.law("d100(1=1)");
        Cases.due("behind the last one", 1, t.v.diesOut(0, 100));
        t.v.years(1);
        Cases.due("it has", 0, t.v.diesOut(0, 100));
        t.v.people(0, 2, 0, 0);
        Cases.due("none goes by", -2, t.v.diesOut(0, 100));
    }

    static void promise27OfLikeOnesTheLowest() {
        Teller t = Cases.withRule("bcdefa/abcdef");
        Cases.due("all are like", 0, t.v.left(0));
        Cases.due("none", 0, t.v.left(1));
        t.v.people(5, 1, 0, 0);
        Cases.due("f", 5, t.v.left(0));
        t.v.people(3, 1, 0, 0);
        Cases.due("d", 3, t.v.left(0));
        Cases.due("one", 1, t.v.left(1));
        t.v.people(4, 0, 1, 0);
        Cases.due("f again, since d's wives are e", 5, t.v.left(0));
    }

    static void promise27MayBeBelow0() {
        Teller t = Cases.withRule("ba/ab");
        t.v.people(0, 0, 9999, 0);
        t.v.people(1, 0, 9999, 0);
        Cases.due("the least", -9999, t.v.left(1));
        Cases.due("a", 0, t.v.left(0));
        t.v.people(0, 0, 9998, 0);
        Cases.due("b", 1, t.v.left(0));
        Cases.due("one more", -9998, t.v.left(1));
        t.v.people(0, 9999, 0, 0);
        t.v.people(1, 0, 0, 0);
        Cases.due("the most", 9999, t.v.left(1));
    }

    static void promise27NoSuchWhatOrNoRule() {
        Teller t = Cases.withRule("ba/ab");
        for (int bad : new int[] {-1, 2, 100, Integer.MIN_VALUE, Integer.MAX_VALUE}) {
            Cases.due("left " + bad, -100000, t.v.left(bad));
        }
        Cases.due("no rule", -100000, new NamedToWed().left(0));
        Cases.due("no rule", -100000, new NamedToWed().left(1));
    }

    static void promise28ZeroTo65535() {
        NamedToWed v = new NamedToWed();
        for (int x : new int[] {0, 1, 65534, 65535}) {
            Cases.due("seed " + x, true, v.seed(x));
            Cases.due("X", x, v.count(7));
        }
        for (int bad : new int[] {-1, 65536, Integer.MIN_VALUE, Integer.MAX_VALUE}) {
            Cases.due("seed " + bad, false, v.seed(bad));
            Cases.due("X stays", 65535, v.count(7));
        }
    }

    static void promise29KeptTheYear() {
        NamedToWed v = new NamedToWed();
        Cases.due("year 0", 0, v.keep());
        Cases.due("undo", true, v.undo());
        Teller t = lateBy(0);
        Cases.due("the last year", 9999, t.v.keep());
    }

    static void promise30FalseNoneWasKept() {
        Teller t = Cases.withRule("ba/ab");
        t.v.people(0, 1, 2, 3);
        t.v.years(1);
        Cases.due("undo", false, t.v.undo());
        Cases.due("the year stays", 1, t.v.count(0));
        isOf(t, 0, 1, 2, 3);
    }

    static void promise30AsTheyWereKeptLast() {
        Teller t = Cases.withRule("ba/ab");
        t.v.people(0, 1, 2, 3);
        t.v.seed(5);
        t.v.keep();
        t.v.people(0, 4, 5, 6);
        t.v.years(1);
        t.v.seed(6);
        t.v.people(0, 7, 8, 9);
        Cases.due("kept again", 1, t.v.keep());
        t.v.people(0, 0, 0, 0);
        t.v.years(5);
        for (int i = 0; i < 2; i++) {
            Cases.due("undo", true, t.v.undo());
            isOf(t, 0, 7, 8, 9);
            Cases.due("year", 1, t.v.count(0));
            Cases.due("X", 6, t.v.count(7));
            t.v.years(3);
        }
    }

    static void promise30OfAsManyNamesAsThenAndNow() {
        for (int then = 2; then <= 6; then++) {
            for (int now = 2; now <= 6; now++) {
                String letters = "abcdef".substring(0, then);
                Teller t = Cases.withRule(letters + "/" + letters);
                for (int name = 0; name < then; name++) {
                    t.v.people(name, 1 + name, 10 + name, 20 + name);
                }
                t.v.keep();
                letters = "abcdef".substring(0, now);
                t.rule(letters + "/" + letters);
                for (int name = 0; name < now; name++) {
                    t.v.people(name, 99, 99, 99);
                }
                Cases.due("undo", true, t.v.undo());
                int all = 0;
                for (int name = 0; name < now; name++) {
                    boolean was = name < then;
                    isOf(t, name, was ? 1 + name : 0, was ? 10 + name : 0, was ? 20 + name : 0);
                    all += was ? 51 + 4 * name : 0;
                }
                Cases.due("all", all, t.v.count(8));
            }
        }
    }

    static void promise30RuleRollLawAndTapeStay() {
        Teller t = Cases.withRoll("ba/ab", "Ma");
        t.v.keep();
        t.rule("abc/bca");
        t.law("x(n=0)");
        t.roll("M;F");
        t.feed("abc");
        Cases.due("undo", true, t.v.undo());
        Cases.due("names", 3, t.v.count(1));
        Cases.due("people", 2, t.v.count(2));
        Cases.due("clauses", 1, t.v.count(5));
        Cases.due("tape", 20, t.tape());
    }

    static void promise31NoneToSixBytes() {
        Teller t = Cases.withRule("abcdef/abcdef");
        for (int n = 0; n <= 6; n++) {
            t.feed("\0\0\0\0\0\0\1");
            Cases.due("check " + n, Cases.NONE, t.v.check(n));
            Cases.due("empty then", 0, t.tape());
        }
        for (int bad : new int[] {-1, 7, 20, Integer.MIN_VALUE, Integer.MAX_VALUE}) {
            t.empty();
            t.feed("\0\0\0\0\0\0\1");
            Cases.due("check " + bad, -2, t.v.check(bad));
            Cases.due("the tape stays", 20, t.tape());
        }
    }

    static void promise31TheTapeHasNotSoMany() {
        Teller t = Cases.withRule("abcdef/abcdef");
        for (int n = 1; n <= 6; n++) {
            Cases.due("check " + n, -2, t.v.check(n));
        }
        Cases.due("none of none", Cases.NONE, t.v.check(0));
    }

    static void promise31TheFirstThatIsNotSo() {
        Teller t = Cases.withRule("abcdef/abcdef");
        for (int name = 0; name < 6; name++) {
            t.v.people(name, name + 1, 0, 0);
        }
        int[] right = {1, 2, 3, 4, 5, 6};
        Cases.due("right", Cases.NONE, t.check(right));
        for (int name = 0; name < 6; name++) {
            int[] bytes = right.clone();
            for (int rest = name; rest < 6; rest++) {
                bytes[rest]++;
                Cases.due("from " + name + " to " + rest, name, t.check(bytes));
            }
        }
    }

    static void promise31Modulo256() {
        int[][] rows = {{0, 0}, {255, 255}, {256, 0}, {257, 1}, {511, 255}, {512, 0}, {9999, 15}};
        for (int[] row : rows) {
            Teller t = Cases.withRule("ab/ab");
            t.v.people(0, row[0], 0, 0);
            Cases.due(row[0] + " modulo 256", Cases.NONE, t.check(row[1]));
            Cases.due("one more", 0, t.check(row[1] + 1 & 255));
        }
        Teller most = Cases.withRule("ab/ab");
        most.v.people(0, 9999, 9999, 9999);
        Cases.due("39996", Cases.NONE, most.check(39996 % 256));
    }

    static void promise31OfNamesThereAreNot0() {
        Teller t = Cases.withRule("ab/ab");
        Cases.due("right", Cases.NONE, t.check(0, 0, 0, 0, 0, 0));
        for (int name = 0; name < 6; name++) {
            int[] bytes = new int[6];
            bytes[name] = 1;
            Cases.due("name " + name, name, t.check(bytes));
        }
        Teller none = new Teller();
        Cases.due("with no rule", Cases.NONE, none.check(0, 0, 0, 0, 0, 0));
        Cases.due("with no rule", 0, none.check(255));
    }

    static void promise32NoneForOthers() {
        NamedToWed v = new NamedToWed();
        for (int bad : new int[] {-1, 9, 10, 100, Integer.MIN_VALUE, Integer.MAX_VALUE}) {
            Cases.due("count " + bad, Cases.NONE, v.count(bad));
        }
    }

    static void promise32AllOfAFullVillage() {
        NamedToWed v = Cases.withRule("abcdef/abcdef").v;
        for (int name = 0; name < 6; name++) {
            v.people(name, 9999, 9999, 9999);
            Cases.due("all", 4 * 9999 * (name + 1), v.count(8));
        }
    }
}
