/** The bounds of THE LAW and of law (promise 4): how it is read, and what it tells. */
public final class LawBoundsTest {
    private static final String DIGITS = "0123456789";
    private static final String FACTORS = DIGITS + "nmvkaptq[";

    private LawBoundsTest() {
    }

    public static void main(String[] args) {
        Cases.run(LawBoundsTest.class);
    }

    private static void reads(String text, int due) {
        Teller t = new Teller();
        Cases.due("law " + text, due, t.law(text));
        Cases.due("the tape behind " + text, 0, t.tape());
        Cases.due("clauses behind " + text, Math.max(due, 0), t.v.count(5));
    }

    private static boolean isIn(String signs, int c) {
        return signs.indexOf(c) >= 0;
    }

    // ---- how it is read ----

    static void lawNoneAtFirst() {
        Cases.due("clauses", 0, new NamedToWed().count(5));
    }

    static void lawOfAtMost240Bytes() {
        String whole = "x(" + Cases.times("n=0|", 58) + "n=001)";
        Cases.due("bytes", 240, whole.length());
        Teller t = new Teller();
        t.feed(whole + "!");
        Cases.due("law(241)", Cases.NONE, t.v.law(241));
        Cases.due("the tape stays", 260, t.tape());
        Cases.due("law(240)", 1, t.v.law(240));
        Cases.due("the tape is empty", 0, t.tape());
        reads("w" + Cases.times("m+", 116) + "m(1=1)", 1);
        reads("x(" + Cases.times("n=0&", 58) + "n=00)$", -1239);
    }

    static void lawNoBlanks() {
        String whole = "w[n+1]*20(!n=1&(m>2|v<3));x(q=0)";
        reads(whole, 2);
        for (int at = 0; at <= whole.length(); at++) {
            reads(whole.substring(0, at) + " " + whole.substring(at), -1000 - at);
        }
    }

    static void lawFault1AtTheFirstByte() {
        for (int c = 0; c < 256; c++) {
            reads((char) c + "$", isIn("wbdx", c) ? -1001 : -1000);
            reads("x(n=n);" + (char) c + "$", isIn("wbdx", c) ? -1008 : -1007);
        }
    }

    static void lawFault1BehindTheLetter() {
        for (int c = 0; c < 256; c++) {
            for (String kind : new String[] {"w", "b", "d"}) {
                reads(kind + (char) c + "$", isIn(FACTORS, c) ? -1002 : -1001);
            }
            reads("x" + (char) c + "$", c == '(' ? -1002 : -1001);
        }
    }

    static void lawFault1InItsWorth() {
        for (int c = 0; c < 256; c++) {
            reads("wn" + (char) c + "$", isIn("+-*/%(", c) ? -1003 : -1002);
            reads("w1" + (char) c + "$", isIn(DIGITS + "+-*/%(", c) ? -1003 : -1002);
            reads("wn+" + (char) c + "$", isIn(FACTORS, c) ? -1004 : -1003);
            reads("wn%" + (char) c + "$", isIn(FACTORS, c) ? -1004 : -1003);
            reads("w[" + (char) c + "$", isIn(FACTORS, c) ? -1003 : -1002);
            reads("w[n" + (char) c + "$", isIn("+-*/%]", c) ? -1004 : -1003);
            reads("w[n]" + (char) c + "$", isIn("+-*/%(", c) ? -1005 : -1004);
        }
    }

    static void lawFault1InItsCondition() {
        for (int c = 0; c < 256; c++) {
            String tests = FACTORS + "!(";
            reads("x(" + (char) c + "$", isIn(tests, c) ? -1003 : -1002);
            reads("x(!" + (char) c + "$", isIn(tests, c) ? -1004 : -1003);
            reads("x((" + (char) c + "$", isIn(tests, c) ? -1004 : -1003);
            reads("x(n" + (char) c + "$", isIn("+-*/%<>=", c) ? -1004 : -1003);
            reads("x(n<" + (char) c + "$", isIn(FACTORS, c) ? -1005 : -1004);
            reads("x(n=n" + (char) c + "$", isIn("+-*/%&|)", c) ? -1006 : -1005);
            reads("x(n=n&" + (char) c + "$", isIn(tests, c) ? -1007 : -1006);
            reads("x(n=n|" + (char) c + "$", isIn(tests, c) ? -1007 : -1006);
            reads("x((n>n)" + (char) c + "$", isIn("&|)", c) ? -1008 : -1007);
        }
    }

    static void lawFault1BehindAClause() {
        for (int c = 0; c < 256; c++) {
            reads("x(n=n)" + (char) c, c == ';' ? -1007 : -1006);
        }
    }

    static void lawFault1TheEnd() {
        String whole = "w12+[n](!(n<1)&m=2|v>3);x(q=0)";
        for (int n = 1; n < whole.length(); n++) {
            reads(whole.substring(0, n), whole.charAt(n) == ';' ? 1 : -1000 - n);
        }
        reads(whole, 2);
    }

    static void lawXHasItsConditionOnly() {
        reads("x(n=0)", 1);
        reads("x1(n=0)", -1001);
        reads("xn(n=0)", -1001);
        reads("w(n=0)", -1001);
        reads("b(n=0)", -1001);
        reads("d(n=0)", -1001);
    }

    static void lawATestHasOneComparison() {
        reads("x(n)", -1003);
        reads("x(1<2<3)", -1005);
        reads("x(n<>1)", -1004);
        reads("x((n)=1)", -1004);
        reads("x([n=1])", -1004);
        reads("x((n=1)=1)", -1007);
    }

    static void lawSignsOfNumbersCantStand() {
        reads("w-1(1=1)", -1001);
        reads("w+1(1=1)", -1001);
        reads("x(n=-1)", -1004);
        reads("w[0-1](1=1)", 1);
    }

    static void lawFault2ASixthDigitAtIt() {
        for (int digits = 1; digits <= 5; digits++) {
            reads("w" + Cases.times("9", digits) + "(1=1)", 1);
            reads("x(" + Cases.times("0", digits) + "=n)", 1);
        }
        reads("w000000(1=1)", -2006);
        reads("w123456(1=1)", -2006);
        reads("w1234567(1=1)", -2006);
        reads("x(123456=n)", -2007);
        reads("x(n=123456)", -2009);
        reads("w12345+12345(1=1)", 1);
        reads("w[999999", -2007);
    }

    static void lawOfOneToSixteenClauses() {
        for (int n = 1; n <= 16; n++) {
            reads(Cases.times("x(n=0);", n - 1) + "x(n=1)", n);
        }
        reads(Cases.times("x(n=0);", 16) + "x(n=1)", -4112);
    }

    static void lawFault4AtItsLetterIfThatCanStandThere() {
        String full = Cases.times("d1(n=0);", 15) + "b2(n=1)";
        reads(full, 16);
        for (int c = 0; c < 256; c++) {
            reads(full + ";" + (char) c, isIn("wbdx", c) ? -4128 : -1128);
        }
        reads(full + ";", -1128);
        reads(full + "w", -1127);
    }

    static void lawFault5OfRounds() {
        for (int open = 1; open <= 6; open++) {
            reads("x" + Cases.times("(", open) + "n=0" + Cases.times(")", open), 1);
        }
        reads("x(((((((n=0)))))))", -5007);
        reads("x(((((((((", -5007);
        reads("x((((((n=0)))))&(((((n=0))))))", 1);
        reads("x((((((n=0)))))&((((((n=0", -5021);
    }

    static void lawFault5OfBracketsInACondition() {
        reads("x([[[[[n]]]]]=0)", 1);
        reads("x([[[[[[n", -5007);
        reads("x(n=[[[[[n]]]]])", 1);
        reads("x(n=[[[[[[n", -5009);
        reads("x([[[[[n]]]]]+[[[[[n]]]]]=[[[[[n]]]]])", 1);
        reads("x([[[[[n]]]]]*[[[[[[n", -5019);
    }

    static void lawFault5OfNots() {
        for (int nots = 0; nots <= 5; nots++) {
            reads("x(" + Cases.times("!", nots) + "n=0)", 1);
        }
        reads("x(!!!!!!n=0)", -5007);
        reads("x(!!!!!!!!", -5007);
        reads("x(!!!!!(n=0))", -5007);
        reads("x(!!!!(n=0))", 1);
        reads("x(!!!!!n=[0])", -5009);
        reads("x(!!!!n=[0])", 1);
        reads("x(!!!!![0]=n)", -5007);
    }

    static void lawFault5ANotIsOpenTillItsTestEnds() {
        reads("x(!!!!!n=0&!!!!!n=0)", 1);
        reads("x(!!!!!n=0|!!!!!n=0)", 1);
        reads("x(!!!!!n=0&[[[[[n]]]]]=0)", 1);
        reads("x(!!!!!n=0|(((((n=0))))))", 1);
        reads("x((!!!!n=0)&!!!!!n=0)", 1);
        reads("x(!!(n=0&!!!n=0))", -5011);
        reads("x(!!(n=0&!!n=0))", 1);
    }

    static void lawFault5TheRoundOfTheClauseCounts() {
        reads("x((((((n=0))))))", 1);
        reads("x(((((((n", -5007);
    }

    static void lawFault5TheWorthStandsAheadOfIt() {
        for (String kind : new String[] {"w", "b", "d"}) {
            reads(kind + "[[[[[[1]]]]]](1=1)", 1);
            reads(kind + "[[[[[[1]]]]]]*[[[[[[1]]]]]]((((((1=1))))))", 1);
            reads(kind + "[[[[[[[1", -5007);
            reads(kind + "1+[[[[[[[1", -5009);
        }
        reads("x(n=0);w[[[[[[1]]]]]](1=1)", 2);
    }

    static void lawFault5OrFault1() {
        // The seventh can't stand there at all: 1.
        reads("x([[[[[(", -1007);
        reads("x([[[[[!", -1007);
        reads("w[[[[[[(", -1007);
        reads("x(((((()", -1007);
        reads("x((((((n(", -1008);
        reads("x((((((n=0(", -1010);
    }

    static void lawFirstFaultFromTheLeft() {
        reads("w1234567$", -2006);
        reads("w$123456", -1001);
        reads("x([[[[[[123456", -5007);
        reads("x(123456[[[[[[[", -2007);
        reads("x(n=0);x(n=$);" + Cases.times("x(n=0);", 16) + "x", -1011);
    }

    // ---- promise 4 ----

    static void promise4InPlaceOfTheOneBefore() {
        Teller t = new Teller();
        Cases.due("two", 2, t.law("x(n=0);x(n=1)"));
        Cases.due("one", 1, t.law("x(n=1)"));
        Cases.due("clauses", 1, t.v.count(5));
        t.rule("ba/ab");
        t.v.people(0, 10, 0, 0);
        t.v.people(1, 0, 10, 0);
        Cases.due("the first one's x is no more", 5, t.v.tried(1, 0));
    }

    static void promise4AFaultTheOneBeforeStays() {
        for (String bad : new String[] {"$", "x", "w60(1=1);", "w60(1=1)$", "w123456", Cases.times("x(n=0);", 16) + "x",
            "x((((((("}) {
            Teller t = Cases.withRule("ba/ab");
            t.v.people(0, 100, 0, 0);
            t.v.people(1, 0, 100, 0);
            t.law("w30(1=1);w40(1=1)");
            Cases.due("a fault", true, t.law(bad) <= -1000);
            Cases.due("the tape is empty", 0, t.tape());
            Cases.due("clauses", 2, t.v.count(5));
            Cases.due("weddings", 30, t.v.tried(1, 0));
        }
    }

    static void promise4NothingIsLeftOfThoseBefore() {
        Teller t = Cases.withRule("ba/ab");
        t.v.people(0, 100, 0, 0);
        t.v.people(1, 0, 100, 0);
        String full = "w" + Cases.times("m+", 116) + "m(1=1)";
        for (int i = 0; i < 6; i++) {
            Cases.due("full", 1, t.law(full));
            Cases.due("weddings", 100, t.v.tried(1, 0));
            Cases.due("a fault at its end", -1239, t.law("x(" + Cases.times("n=0&", 58) + "n=00)$"));
            Cases.due("sixteen", 16, t.law(Cases.times("x(n=1);", 15) + "x(n=1)"));
            Cases.due("weddings", 50, t.v.tried(1, 0));
            Cases.due("two", 2, t.law("w7(n=1);w8(n=0)"));
            Cases.due("weddings", 8, t.v.tried(1, 0));
        }
    }

    static void promise4NoneNoSuchNumber() {
        Teller t = new Teller();
        t.feed("x(n=0)" + Cases.times("!", 254));
        for (int n : new int[] {0, -1, 241, 260, 261, Integer.MIN_VALUE, Integer.MAX_VALUE}) {
            Cases.due("law(" + n + ")", Cases.NONE, t.v.law(n));
        }
        Cases.due("the tape stays", 260, t.tape());
        Cases.due("its bytes, too", 1, t.v.law(6));
    }

    static void promise4NoneTheTapeHasNotSoMany() {
        Teller t = new Teller();
        Cases.due("an empty tape", Cases.NONE, t.v.law(1));
        t.feed("x(n=0)");
        Cases.due("21 of 20", Cases.NONE, t.v.law(21));
        Cases.due("the tape stays", 20, t.tape());
        Cases.due("20 of 20", -1006, t.v.law(20));
        Cases.due("empty then", Cases.NONE, t.v.law(1));
    }

    static void promise4WithNoRule() {
        Cases.due("law", 1, new Teller().law("x(n=0)"));
    }

    // ---- what it tells ----

    /** Of a hundred of name a who can be wed: how many are. */
    private static void weds(String law, int due) {
        Teller t = Cases.withRule("ba/ab");
        t.v.people(0, 100, 0, 0);
        t.v.people(1, 0, 100, 0);
        Cases.due("clauses of " + law, Cases.NONE < t.law(law), true);
        Cases.due("weddings by " + law, due, t.v.tried(1, 0));
    }

    /** Of a hundred couples of name a: how many children they have. */
    private static void bears(String law, int due) {
        Teller t = Cases.withRule("ba/ab");
        t.v.people(0, 0, 0, 100);
        Cases.due("clauses of " + law, Cases.NONE < t.law(law), true);
        Cases.due("births by " + law, due, t.v.tried(1, 1));
    }

    /** Of a hundred men of name a: how many die. */
    private static void buries(String law, int due) {
        Teller t = Cases.withRule("ba/ab");
        t.v.people(0, 100, 0, 0);
        Cases.due("clauses of " + law, Cases.NONE < t.law(law), true);
        Cases.due("deaths by " + law, due, t.v.tried(1, 2));
    }

    /** Whether a condition holds: w is 9 then, else 5. */
    private static void holds(String condition, boolean due) {
        weds("w9(" + condition + ");w5(1=1)", due ? 9 : 5);
    }

    static void lawWeddingsOfNoneTo100Hundredths() {
        weds("w0-1(1=1)", 0);
        weds("w0-99999(1=1)", 0);
        weds("w32768*65536(1=1)", 0);
        weds("w0(1=1)", 0);
        weds("w1(1=1)", 1);
        weds("w99(1=1)", 99);
        weds("w100(1=1)", 100);
        weds("w101(1=1)", 100);
        weds("w99999(1=1)", 100);
        weds("w32768*65536-1(1=1)", 100);
    }

    static void lawBirthsOfNoneTo300() {
        bears("b0-1(1=1)", 0);
        bears("b32768*65536(1=1)", 0);
        bears("b0(1=1)", 0);
        bears("b1(1=1)", 1);
        bears("b299(1=1)", 299);
        bears("b300(1=1)", 300);
        bears("b301(1=1)", 300);
        bears("b32768*65536-1(1=1)", 300);
    }

    static void lawDeathsOfNoneTo100Hundredths() {
        buries("d0-1(1=1)", 0);
        buries("d32768*65536(1=1)", 0);
        buries("d0(1=1)", 0);
        buries("d1(1=1)", 1);
        buries("d99(1=1)", 99);
        buries("d100(1=1)", 100);
        buries("d101(1=1)", 100);
        buries("d32768*65536-1(1=1)", 100);
    }

    static void lawNoneOfAKind() {
        weds("b0(1=1)", 50);
        weds("w9(1=2)", 50);
        weds("w9(1/0=0)", 50);
        bears("d0(1=1)", 40);
        bears("b9(1=2)", 40);
        bears("b9(1/0=0)", 40);
        buries("w0(1=1)", 2);
        buries("d9(1=2)", 2);
        buries("d9(1/0=0)", 2);
    }

    static void lawNoLawAtAll() {
        Teller t = Cases.withRule("ba/ab");
        t.v.people(0, 100, 100, 100);
        t.v.people(1, 0, 100, 0);
        Cases.due("weddings", 50, t.v.tried(1, 0));
        Cases.due("births", 150 * 40 / 100, t.v.tried(1, 1));
        t.v.people(0, 100, 0, 0);
        t.v.people(1, 0, 0, 0);
        Cases.due("deaths", 2, t.v.tried(1, 2));
    }

    static void lawTheFirstClauseThatHolds() {
        weds("w7(1=1);w8(1=1)", 7);
        weds("w7(1=2);w8(1=1)", 8);
        weds("w7(1/0=0);w8(1=1)", 8);
        weds("b7(1=1);w8(1=1)", 8);
        bears("b7(1=2);b8(1=1);b9(1=1)", 8);
        buries("d7(1=2);d8(1=1);d9(1=1)", 8);
        weds(Cases.times("w7(1=2);", 15) + "w8(1=1)", 8);
    }

    static void lawXNoWeddingAnyWillDo() {
        weds("x(1=1)", 0);
        weds("x(1=2)", 50);
        weds("x(1=2);x(1=1)", 0);
        weds("x(1=1);x(1=2)", 0);
        weds("x(1=2);x(1=2)", 50);
        weds("x(1/0=0)", 50);
        weds("x(1/0=0);x(1=1)", 0);
        weds("w100(1=1);x(n=0)", 0);
        weds("w100(1=1);x(n=1)", 100);
    }

    static void lawTermsAndFactorsFromTheLeft() {
        weds("w20-5-3(1=1)", 12);
        weds("w20-5+3(1=1)", 18);
        weds("w60/7*2(1=1)", 16);
        weds("w2*60/7(1=1)", 17);
        weds("w60%7*2(1=1)", 8);
        weds("w60/2/3(1=1)", 10);
        weds("w2+3*4(1=1)", 14);
        weds("w[2+3]*4(1=1)", 20);
        weds("w20-2*3-4(1=1)", 10);
        weds("w90-[20-5](1=1)", 75);
    }

    static void lawThe32BitsWrapAround() {
        holds("32768*65535+32767>0", true);
        holds("32768*65535+32767+1<0", true);
        holds("32768*65535+32768<0", true);
        holds("32768*65536<0", true);
        holds("32768*65536-1>0", true);
        holds("32768*65536-1=32768*65535+32767", true);
        holds("32768*65536-1+1<0", true);
        holds("[0-32768]*65536<0", true);
        holds("[0-32768]*65536-1>0", true);
        holds("0-32768*65536<0", true);
        holds("65536*65536=0", true);
        holds("65537*65537=2*65536+1", true);
        holds("46340*46340>0", true);
        holds("46341*46341<0", true);
        holds("99999*99999=14098*10000*10+65409", true);
    }

    static void lawTheLeastDividedByMinusOne() {
        holds("32768*65536/[0-1]<0", true);
        holds("32768*65536/[0-1]=32768*65536", true);
        holds("32768*65536%[0-1]=0", true);
        weds("w32768*65536/[0-1](1=1);w5(1=1)", 0);
        weds("w32768*65536%[0-1]+4(1=1)", 4);
    }

    static void lawDivisionIsTheMachines() {
        holds("7/2=3", true);
        holds("[0-7]/2=0-3", true);
        holds("7/[0-2]=0-3", true);
        holds("[0-7]/[0-2]=3", true);
        holds("7%2=1", true);
        holds("[0-7]%2=0-1", true);
        holds("7%[0-2]=1", true);
        holds("0/7=0", true);
        holds("6/7=0", true);
        holds("7/7=1", true);
        holds("7%7=0", true);
    }

    static void lawWhatIsDividedBy0TheWorthIs0() {
        weds("w1/0(1=1);w5(1=1)", 0);
        weds("w1%0(1=1);w5(1=1)", 0);
        weds("w0/0(1=1)", 0);
        weds("w7+1/0(1=1)", 0);
        weds("w1/0+7(1=1)", 0);
        weds("w0*[1/0]+7(1=1)", 0);
        weds("w7/[n-0](1=1)", 0);
        weds("w7+[9%[3-3]]*0(1=1)", 0);
        bears("b1/0(1=1);b5(1=1)", 0);
        bears("b9%k+5/[k-100](1=1)", 0);
        buries("d1/0(1=1);d5(1=1)", 0);
        buries("d9+7%n(1=1)", 0);
    }

    static void lawWhatIsDividedBy0TheConditionDoesNotHold() {
        holds("1/0=0", false);
        holds("1%0=0", false);
        holds("0=1/0", false);
        holds("0/0=0", false);
        holds("1/0<1", false);
        holds("1>1%0", false);
        holds("1/[1-1]=0", false);
        holds("0*[1/0]=0", false);
        weds("b1/0(1=1);w5(1=1)", 5);
    }

    static void lawWhatIsDividedBy0TheWholeCondition() {
        holds("!1/0=0", false);
        holds("!!1/0=0", false);
        holds("1/0=0|1=1", false);
        holds("(1/0=0)|1=1", false);
        holds("!(1/0=0)|1=1", false);
        holds("!(1=2|1%0=0)", false);
        holds("1=2|1/0=0|1=1", false);
        holds("1=1&1/0=0|1=1", false);
        holds("(((1/0=0|1=1)|1=1)|1=1)|1=1", false);
    }

    static void lawOfAConditionAsMuchAsMatters() {
        holds("1=1|1/0=0", true);
        holds("1=2&1/0=0|1=1", true);
        holds("1=2&1/0=0", false);
        holds("!(1=2&1/0=0)", true);
        holds("(1=1|1/0=0)&2=2", true);
        holds("1=1|1=2&1/0=0", true);
        holds("1=2&1=1&1/0=0|3=3", true);
        holds("1=2&(1=1|1/0=0)|3=3", true);
        holds("!(1=1|1/0=0)|1=1|1/0=0", true);
        holds("1=1&2=2|1/0=0", true);
        holds("1=2|3=3|1/0=0", true);
        holds("1=2&1/0=0|1=2&1/0=0|1=2", false);
    }

    static void lawAllPartsAndTests() {
        holds("1=1", true);
        holds("1=2", false);
        holds("1=1&2=2&3=3", true);
        holds("1=1&2=2&3=4", false);
        holds("1=2&2=2&3=3", false);
        holds("1=2|2=3|3=3", true);
        holds("1=2|2=3|3=4", false);
        holds("1=1|2=2&3=4", true);
        holds("(1=1|2=2)&3=4", false);
        holds("1=2&1=1|1=1", true);
        holds("1=2&(1=1|1=1)", false);
    }

    static void lawComparisonsAtTheirBounds() {
        holds("1<2", true);
        holds("2<2", false);
        holds("3<2", false);
        holds("1>2", false);
        holds("2>2", false);
        holds("3>2", true);
        holds("1=2", false);
        holds("2=2", true);
        holds("3=2", false);
        holds("0-1<0", true);
        holds("32768*65536<32768*65536-1", true);
    }

    static void lawANotTurnsItsTestAlone() {
        holds("!1=2", true);
        holds("!1=1", false);
        holds("!!1=1", true);
        holds("!!!!!1=2", true);
        holds("!1=1|1=1", true);
        holds("!1=2&1=2", false);
        holds("!(1=1&1=2)", true);
        holds("!(1=2|1=1)", false);
    }

    /** Of a: 5 unwed men, 6 unwed women, 7 couples; of b 1, 100, 2; a's WIFE is b and b's a; THE YEAR is 103. */
    private static void letter(String letter, int due) {
        Teller t = Cases.withRule("ba/ab");
        t.v.years(100);
        t.v.years(3);
        t.v.seed(1);
        t.v.people(0, 5, 6, 7);
        t.v.people(1, 1, 100, 2);
        t.law("w100(n=0&" + letter + "=" + due + ");w0(1=1)");
        Cases.due(letter + " is " + due, 5, t.v.tried(1, 0));
    }

    static void lawLettersOfTheFirstName() {
        letter("n", 0);
        letter("m", 5);
        letter("v", 100);
        letter("k", 7);
        letter("a", 5 + 6 + 7 + 2);
        letter("p", 5 + 6 + 14 + 1 + 100 + 4);
        letter("t", 3);
        // X is 25173 + 13849 = 39022.
        letter("q", 2);
    }

    static void lawLettersOfTheLastName() {
        Teller t = Cases.withRule("abcdef/abcdef");
        t.v.people(5, 10, 20, 30);
        t.law("w100(n=5&m=10&v=20&k=30&a=90&p=90);w0(1=1)");
        Cases.due("all", 10, t.v.tried(1, 0));
    }

    static void lawTheYearModulo100() {
        Teller t = Cases.withRule("ba/ab");
        t.law("wt(1=1);b0(1=1);d0(1=1)");
        for (int year = 0; year < 101; year += year < 98 ? 49 : 1) {
            t.v.people(0, 100, 0, 0);
            t.v.people(1, 0, 100, 0);
            Cases.due("year", year, t.v.count(0));
            Cases.due("t of year " + year, year % 100, t.v.tried(1, 0));
            t.v.years(year < 98 ? 49 : 1);
        }
    }

    static void lawTheDrawIsXModulo10() {
        Teller t = Cases.withRule("ba/ab");
        t.law("wq(1=1)");
        t.v.people(0, 100, 0, 0);
        t.v.people(1, 0, 100, 0);
        for (int seed = 0; seed < 65536; seed += 481) {
            t.v.seed(seed);
            long x = (25173L * seed + 13849L) % 65536L;
            Cases.due("q of seed " + seed, x % 10, t.v.tried(1, 0));
        }
    }
}
