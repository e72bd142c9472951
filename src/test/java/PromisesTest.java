/** Each promise of the document by examples reckoned by hand: ordinary ones, edges, wrong inputs. */
public final class PromisesTest {
    private static final int NONE = -1;
    private static final String FOUR = "badc/cdab";
    private static int wrong = 0;
    private static int asked = 0;

    private static void due(String what, long due, long got) {
        asked++;
        if (got != due) {
            wrong++;
            System.out.println(what + ": " + got + ", due is " + due);
        }
    }

    private static void due(String what, String due, String got) {
        asked++;
        if (!got.equals(due)) {
            wrong++;
            System.out.println(what + ": " + got + ", due is " + due);
        }
    }

    private static void due(String what, boolean due, boolean got) {
        due(what, due ? 1 : 0, got ? 1 : 0);
    }

    public static void main(String[] args) {
        newObject();
        people();
        feed();
        law();
        lawsThatAreAsked();
        rule();
        roll();
        kin();
        alike();
        ways();
        term();
        cousin();
        words();
        allRules();
        personIs();
        houses();
        mended();
        byTold();
        whatIs();
        those();
        mayWed();
        weddings();
        line();
        years();
        tried();
        nameIs();
        diesOut();
        left();
        seed();
        keepAndUndo();
        check();
        count();
        refusedCallsChangeNothing();
        System.out.println("PromisesTest: " + asked + " answers, " + wrong + " not as due");
        if (wrong != 0) {
            System.exit(1);
        }
    }

    private static Teller withRule(String rule) {
        Teller t = new Teller();
        due("rule " + rule, rule.indexOf('/'), t.rule(rule));
        return t;
    }

    private static Teller withRoll(String rule, String roll) {
        Teller t = withRule(rule);
        due("roll " + roll, roll.split(";").length, t.roll(roll));
        return t;
    }

    private static String times(String text, int n) {
        return text.repeat(n);
    }

    // 1
    private static void newObject() {
        NamedToWed v = new NamedToWed();
        for (int what = 0; what <= 8; what++) {
            due("new count " + what, what == 7 ? 1 : 0, v.count(what));
        }
        due("new ways", NONE, v.ways(0));
        due("new cousin", NONE, v.cousin(100));
        due("new term", NONE, v.term(0, 0, 0, 0, 100));
        due("new words", NONE, v.words(1, 0, 0, 0, 0));
        due("new personIs", NONE, v.personIs(0, 0));
        due("new houses", 0, v.houses(0));
        due("new mended", 0, v.mended(0));
        due("new byTold", -2, v.byTold(3));
        due("new whatIs", NONE, v.whatIs(0, 0, 100));
        due("new mayWed", NONE, v.mayWed(0));
        due("new weddings", 0, v.weddings());
        due("new line", NONE, v.line(0, 0));
        due("new nameIs", NONE, v.nameIs(0, 0));
        due("new diesOut", NONE, v.diesOut(0, 1));
        due("new left", -100000, v.left(0));
        due("new undo", false, v.undo());
        due("new tried", 0, v.tried(3, 3));
        due("new tried name", NONE, v.tried(3, 10));
        due("new years", 0, v.years(3));
        due("years go by without names", 3, v.count(0));
        due("no draws without names", 1, v.count(7));
    }

    // 2
    private static void people() {
        due("people with no rule", false, new NamedToWed().people(0, 1, 1, 1));
        Teller t = withRule("abc/abc");
        due("people", true, t.v.people(2, 1, 2, 3));
        due("people most", true, t.v.people(0, 9999, 9999, 9999));
        due("people none", true, t.v.people(1, 0, 0, 0));
        due("people name", false, t.v.people(3, 1, 1, 1));
        due("people name below", false, t.v.people(-1, 1, 1, 1));
        for (int[] bad : new int[][] {{10000, 1, 1}, {1, 10000, 1}, {1, 1, 10000}, {-1, 1, 1}, {1, -1, 1}, {1, 1, -1}}) {
            due("people beyond", false, t.v.people(2, bad[0], bad[1], bad[2]));
        }
        due("men stay", 1, t.v.nameIs(2, 0));
        due("women stay", 2, t.v.nameIs(2, 1));
        due("couples stay", 3, t.v.nameIs(2, 2));
    }

    // 3
    private static void feed() {
        NamedToWed v = new NamedToWed();
        for (int i = 1; i <= 13; i++) {
            due("feed", 20 * i, v.feed(i, i, i, i, i));
        }
        due("feed beyond", NONE, v.feed(1, 1, 1, 1, 1));
        due("tape stays", 260, v.count(6));
        due("check empties", NONE, v.check(0));
        due("tape empty", 0, v.count(6));
        Teller t = withRule("ab/ab");
        t.v.people(0, 128, 127, 0);
        t.v.people(1, 0, 1, 0);
        t.v.feed(0xff010000, 0, 0, 0, 0);
        due("highest byte first, without sign", NONE, t.v.check(6));
    }

    // 4
    private static void law() {
        Object[][] texts = {
            {"w50(1=1)", 1}, {"w(1=1)", -1001}, {"x(n=0)", 1}, {"x1(n=0)", -1001}, {"y", -1000}, {"X(n=0)", -1000},
            {"w", -1001}, {"w1", -1002}, {"x", -1001}, {"w1(1=1);", -1008}, {"w1(1=1)x", -1007}, {"w1(1=1", -1006},
            {"w1(1=1);;", -1008}, {"w1(1=1);b2(1=1);d3(1=1);x(n=1)", 4},
            {"w123456(1=1)", -2006}, {"w12345(1=1)", 1}, {"w00001(1=1)", 1}, {"w000001(1=1)", -2006},
            {"w1(1=123456)", -2010}, {"w1(1=12345+12345)", 1},
            {times("x(n=0);", 15) + "x(n=0)", 16}, {times("x(n=0);", 16) + "x(n=0)", -4112},
            {times("x(n=0);", 16) + "y(n=0)", -1112}, {times("x(n=0);", 16), -1112},
            {"x((((((n=0))))))", 1}, {"x(((((((n=0", -5007}, {"w[[[[[[1]]]]]](1=1)", 1}, {"w[[[[[[[1", -5007},
            {"x([[[[[1]]]]]=1)", 1}, {"x([[[[[[1", -5007}, {"x(1=[[[[[[1", -5009},
            {"x(!!!!!n=0)", 1}, {"x(!!!!!!n=0)", -5007}, {"x(!!!!!n=[1])", -5009}, {"x(!!!!![1]=n)", -5007},
            {"x(!!!!!n=0&n=[1])", 1}, {"x(!!!!!n=0&!!!!!n=0)", 1}, {"x(!!!!!n=0|[1]=n)", 1}, {"x(!(!(!n=0)))", 1},
            {"x(!(!(!(n=0))))", -5007}, {"x((n=0)&(((((n=0))))))", 1}, {"x((n=0)&((((((n=0", -5013},
            {"w[[[[[[1]]]]]]+[[[[[[1]]]]]](1=1)", 1}, {"w1(1=1);w[[[[[[1]]]]]](1=1)", 2},
            {"x()", -1002}, {"x(n)", -1003}, {"x(n=)", -1004}, {"x(n==0)", -1004}, {"x(n=0&)", -1006},
            {"x(n=0||n=0)", -1006}, {"x(n=-1)", -1004}, {"x(n=0 )", -1005}, {"w1+(1=1)", -1003}, {"w1n(1=1)", -1002},
            {"w[1(1=1)", -1003}, {"x(1=1=1)", -1005}, {"x((n)=1)", -1004}, {"x([n]=1)", 1}, {"x([n=1])", -1004},
            {"x(n<1&n>0|n=5&(n=0|!n=2))", 1}, {"wn*2+m/3-v%4*k+a-p+t-q(1=1)", 1}, {"x(z=0)", -1002}, {"x(!)", -1003},
            {"x(n!0)", -1003}, {"w1(1=1))", -1007}, {"w\u00e91(1=1)", -1001}, {"w1 (1=1)", -1002}, {"w[](1=1)", -1002},
        };
        for (Object[] pair : texts) {
            Teller t = new Teller();
            due("law " + pair[0], (Integer) pair[1], t.law((String) pair[0]));
            due("tape behind law " + pair[0], 0, t.tape());
        }
        Teller t = new Teller();
        due("law", 2, t.law("x(n=0);x(n=1)"));
        due("a fault", -1001, t.law("x"));
        due("the one before stays", 2, t.v.count(5));
        due("another law", 1, t.law("x(n=2)"));
        due("in its place", 1, t.v.count(5));
        t.feed("x(n=0)");
        due("law 0", NONE, t.v.law(0));
        due("law -1", NONE, t.v.law(-1));
        due("law 21", NONE, t.v.law(21));
        due("law 241", NONE, t.v.law(241));
        due("tape stays", 20, t.tape());
        due("law of the first bytes", 1, t.v.law(6));
        String whole = "x(" + times("n=0|", 58) + "n=001)";
        due("240 bytes are enough", 240, whole.length());
        due("240 bytes at once", 1, t.law(whole));
        t.feed(whole + " ");
        due("no 241", NONE, t.v.law(241));
    }

    private static int worth(String clauses, int married) {
        Teller t = withRule("ba/ab");
        t.v.people(0, 100, 0, 7);
        t.v.people(1, 0, 100, 0);
        t.law(clauses);
        due(clauses + " by THE LAW", married, t.v.tried(1, 0));
        return married;
    }

    /** Of a hundred who can be wed in name a, w tells how many are. */
    private static void lawsThatAreAsked() {
        worth("b0(1=1)", 50);
        worth("w0(1=1)", 0);
        worth("w30(1=2)", 50);
        worth("w30(n=0);w40(n=0)", 30);
        worth("w30(n=1);w40(n=0)", 40);
        worth("w101(1=1)", 100);
        worth("w0-5(1=1)", 0);
        worth("w7-2-3(1=1)", 2);
        worth("w60/7*2(1=1)", 16);
        worth("w2*60/7(1=1)", 17);
        worth("w2+3*4(1=1)", 14);
        worth("w[2+3]*4(1=1)", 20);
        worth("w60%7*2(1=1)", 8);
        worth("w[0-7]/2+9(1=1)", 6);
        worth("w[0-7]%4+9(1=1)", 6);
        worth("w50000*50000(1=1)", 0);
        worth("w99999*99999%1000(1=1)", 100);
        worth("w99999*99999/99999/200(1=1)", 70);
        worth("wm-60(1=1)", 40);
        worth("wv-70(1=1)", 30);
        worth("wk(1=1)", 7);
        worth("wa-100(1=1)", 7);
        worth("wp-200(1=1)", 14);
        worth("wt+1(1=1)", 1);
        worth("wq(1=1)", 2);
        worth("wn+3(1=1)", 3);
        worth("w1/0(1=1);w5(1=1)", 0);
        worth("w1%0(1=1);w5(1=1)", 0);
        worth("w9(1/0=0);w5(1=1)", 5);
        worth("w9(1%0=0);w5(1=1)", 5);
        worth("w9(!1/0=0);w5(1=1)", 5);
        worth("w9(1/0=0|1=1);w5(1=1)", 5);
        worth("w9(1=1|1/0=0);w5(1=1)", 9);
        worth("w9(1=1&1/0=0);w5(1=1)", 5);
        worth("w9(1=2&1/0=0|1=1);w5(1=1)", 9);
        worth("w9(1=2&1/0=0&1/0=0|1=2|1=1|1/0=1);w5(1=1)", 9);
        worth("w9((1=1|1/0=0)&1=1);w5(1=1)", 9);
        worth("w9((1=1|1/0=0)&1=2|1=2);w5(1=1)", 5);
        worth("w9(!(1=2&1/0=0));w5(1=1)", 9);
        worth("w9(!!1=1);w5(1=1)", 9);
        worth("w9(!1=1|1=1);w5(1=1)", 9);
        worth("w9(!1=2&1=2);w5(1=1)", 5);
        worth("w9(1<2&2>1&2=2);w5(1=1)", 9);
        worth("w9(2<2);w5(2>2)", 50);
        worth("w9(q=2)", 9);
        worth("x(n=0)", 0);
        worth("x(n=1)", 50);
        worth("x(n=1);x(1/0=0);x(q=2)", 0);
        worth("x(1/0=0)", 50);
    }

    // 5
    private static void rule() {
        Object[][] texts = {
            {"ab/ab", 2}, {"abcdef/fedcba", 6}, {"ba", -1002}, {"ba/", -1003}, {"ba/a", -1004}, {"ba/ab/", -1005},
            {"ba/abc", -1005}, {"ba/ab ", -1005}, {"a/a", -1001}, {"/ab", -1000}, {"a", -1001}, {"a b/ab", -1001},
            {"abcdefa/", -1006}, {"abcdefg", -1006}, {"abcdef", -1006}, {"aa/ab", -6001}, {"aab/abc", -6001},
            {"acc/abc", -6002}, {"cc/ab", -6001}, {"ddd", -6001}, {"ac/ac", -3001}, {"cd/ab", -3000}, {"fa/", -3000},
            {"ab/cc", -3003}, {"ab/ac", -3004}, {"ab/aa", -6004}, {"abc/aba", -6006}, {"ab/g", -1003}, {"ab/A", -1003},
            {"ab//", -1003}, {"abcdef/abcdefa", -1013}, {"Ab/ab", -1000}, {"\u00ff", -1000}, {" ab/ab", -1000},
        };
        for (Object[] pair : texts) {
            Teller t = new Teller();
            due("rule " + pair[0], (Integer) pair[1], t.rule((String) pair[0]));
            due("tape behind rule " + pair[0], 0, t.tape());
        }
        Teller t = withRoll(FOUR, "Md;Fb;Fc");
        t.v.people(1, 5, 6, 7);
        t.v.years(2);
        t.v.seed(77);
        due("a fault", -6001, t.rule("aa/ab"));
        due("names stay", 4, t.v.count(1));
        due("wife stays", 1, t.v.nameIs(0, 4));
        due("told stays", 3, t.v.personIs(0, 1));
        due("some are left", true, t.v.count(8) > 0);
        due("a new rule", 3, t.rule("bca/cab"));
        due("the village is empty", 0, t.v.count(8));
        due("the year stays", 2, t.v.count(0));
        due("X stays", 77, t.v.count(7));
        due("a told name that is no more", -2, t.v.personIs(0, 1));
        due("a told name that is", 1, t.v.personIs(1, 1));
        due("the last that is", 2, t.v.personIs(2, 1));
        due("more names again", 4, t.rule(FOUR));
        due("it stays unknown", -2, t.v.personIs(0, 1));
        t.feed("ab/ab");
        due("rule 0", NONE, t.v.rule(0));
        due("rule -5", NONE, t.v.rule(-5));
        due("rule 21 of 20", NONE, t.v.rule(21));
        t.feed("ab/ab");
        due("rule 21", NONE, t.v.rule(21));
        due("tape stays", 40, t.tape());
        due("rule 20", -1005, t.v.rule(20));
        t.v.people(0, 1, 1, 1);
        due("the same rule", 4, t.rule(FOUR));
        due("is a new one", 0, t.v.count(8));
    }

    // 6
    private static void roll() {
        Teller none = new Teller();
        none.feed("M");
        due("roll with no rule", NONE, none.v.roll(1));
        due("tape stays", 20, none.tape());
        Object[][] texts = {
            {"M", 1}, {"m", -1000}, {"M;", -1002}, {"Mz", -1001}, {"Mf", -6001}, {"Me", -6001}, {"Mg", -1001}, {"Md", 1},
            {"Mab", -1002}, {"M<", -1002}, {"M<-", -1003}, {"M<-,", -1004}, {"M<-,-", 1}, {"M<0,-", -3002},
            {"M<-,0", -3004}, {"M<,", -1002}, {"M<-;", -1003}, {"M;F<0,-", 2}, {"M;F<1,-", -3004}, {"M;F<-,0", -7006},
            {"F;M<0,-", -7004}, {"F;M<0", -7004}, {"M;F<-,0x", -7006}, {"M;F&0", 2}, {"M;M&0", -8004}, {"F;F&0", -8004},
            {"M;F&0;F&0", -8008}, {"M;F&0;M&1", -8008}, {"M;F&1", -3004}, {"M;F&-", -1004}, {"M;F&", -1004},
            {"M;F&000", -2006}, {"M;F&00", 2}, {"M;F<00,-", 2}, {"M;F<0,00", -7006}, {"M;F<123", -2006},
            {"M;F<12x", -3004}, {"M;F<12", -3004}, {"M;F&12;", -3004}, {"M;F&0<-,-", -1005}, {"M<-,-a", -1005},
            {"M;F<0,-&0", 2}, {"M;F<-,-&0", 2}, {"M ;F", -1001}, {"M;F<0,-&0;M<0,1", 3}, {"M;;F", -1002},
            {"Ma<-,-", 1}, {"M;Fd<0,-&0;Mb<0,1", 3}, {"M;M;F<0,-&1", 3}, {"M;F;F<0,0", -7008}, {"M\u00e9", -1001},
            {times("M;", 23) + "M", 24}, {times("M;", 24) + "F", -4048}, {times("M;", 24) + "x", -1048},
            {times("M;", 24), -1048}, {times("M;", 23) + "F<22,-", 24}, {times("M;", 23) + "F<23,-", -3048},
        };
        for (Object[] pair : texts) {
            Teller t = withRule(FOUR);
            due("roll " + pair[0], (Integer) pair[1], t.roll((String) pair[0]));
            due("tape behind roll " + pair[0], 0, t.tape());
        }
        due("a name of six", 1, withRule("abcdef/abcdef").roll("Mf"));
        Teller t = withRoll(FOUR, "Ma;Fb&0;Mc");
        due("a fault", -1001, t.roll("M!"));
        due("the one before stays", 3, t.v.count(2));
        due("and who is wed", 3, t.v.count(4));
        due("another", 1, t.roll("Fa"));
        due("in its place", 1, t.v.count(2));
        due("nobody is wed", 0, t.v.count(4));
        t.feed(times("M;", 120) + "M");
        due("roll 241", NONE, t.v.roll(241));
        due("roll 0", NONE, t.v.roll(0));
        due("tape stays", 260, t.tape());
        due("roll 240", -4048, t.v.roll(240));
        due("roll of an empty tape", NONE, t.v.roll(1));
    }

    // 7
    private static void kin() {
        Teller t = withRule(FOUR);
        Object[][] texts = {
            {"x", 0, -1000}, {"3", 0, -1001}, {"1f", 0, -1000}, {"0f", 0, -1000}, {"23f", 0, -1001}, {"9f", 0, 9},
            {"()", 0, -1001}, {"(f", 0, -1002}, {"f)", 0, -1001}, {"((f))", 0, 1}, {"(((f)))", 0, -5002},
            {"((3(f)))", 0, -5003}, {"((f)(f))", 0, 2}, {"(f)(f)((f))", 0, 3}, {"(f3)", 0, -1003}, {"(f))", 0, -1003},
            {"3(8f)", 0, 24}, {"3(9f)", 0, -6000}, {"2(9f)7f", 0, -6005}, {"2(9f)6f", 0, 24}, {"2(9f)6ff", 0, -6007},
            {"9f9f9x", 0, -1005}, {"9f9f9", 0, -1005}, {"9f9f9f", 0, -6004}, {"9f9f(7f)", 0, -6005}, {"9f9f2(7f)", 0, -6006},
            {"9f9f(6f)", 0, 24}, {"9f9f2(3f)", 0, 24}, {"9f9f2(4f)", 0, -6004}, {"2((9f)4f)", 0, -6000},
            {"2((9f)3f)", 0, 24}, {"2(2(9f))", 0, -6000}, {"2(3(9f))", 0, -6002}, {"(f5(5z))", 0, -6002},
            {"fffffffffffffffffffffffff", 0, -6024}, {"ffffffffffffffffffffffff", 0, 24}, {"2f3m", 0, 5},
            {"h", 0, -7000}, {"w", 1, -7000}, {"h", 1, 1}, {"w", 0, 1}, {"zw", 0, -7001}, {"2w", 0, -7001}, {"2h", 1, -7001},
            {"2(w)w", 0, -7002}, {"2(wh)", 0, 4}, {"2(wh)", 1, -7002}, {"2(hw)", 1, 4}, {"wx", 1, -1001}, {"w9f9f9f", 1, -6005},
            {"f h", 0, -1001}, {"fh", 0, -7001}, {"mh", 0, 2}, {"sw", 1, 2}, {"dw", 1, -7001}, {"bwzhw", 0, 5},
            {"3(w)", 0, -7002}, {"F", 0, -1000},
        };
        for (Object[] row : texts) {
            due("word " + row[0] + " of " + row[1], (Integer) row[2], t.kin((String) row[0], (Integer) row[1], 104));
            due("tape behind " + row[0], 0, t.tape());
        }
        String[] leads = {"f0dcba", "m0cdab", "w0badc", "s0dcba", "d0dcba", "b0abcd", "z0abcd",
            "f1dcba", "m1cdab", "h1badc", "s1cdab", "d1cdab", "b1abcd", "z1abcd"};
        for (String lead : leads) {
            for (int name = 0; name < 4; name++) {
                due("kin " + lead + " of " + name, lead.charAt(2 + name) - 'a',
                        t.kin(lead.substring(0, 1), lead.charAt(1) - '0', name));
            }
            due("kin sort " + lead, "fhsb".indexOf(lead.charAt(0)) >= 0 ? 0 : 1,
                    t.kin(lead.substring(0, 1), lead.charAt(1) - '0', 100));
        }
        // Of three names in a circle the two sorts of steps differ.
        Teller three = withRule("bca/bac");
        String[] others = {"f0acb", "m0bac", "w0bca", "s0acb", "d0acb", "f1acb", "h1cab", "s1bac", "d1bac"};
        for (String lead : others) {
            for (int name = 0; name < 3; name++) {
                due("kin of three " + lead + " of " + name, lead.charAt(2 + name) - 'a',
                        three.kin(lead.substring(0, 1), lead.charAt(1) - '0', name));
            }
        }
        due("mother's brother's daughter", 15, t.kin("mbd", 0, 103));
        due("mother's sister's daughter", 0, t.kin("mzd", 0, 103));
        due("she is a sister by name", 4, t.kin("mzd", 0, 101));
        due("once", 1, t.kin("mzd", 0, 102));
        due("twice", 2, t.kin("mbd", 0, 102));
        due("to a man: none lawful", 0, t.kin("mbs", 0, 103));
        due("a woman's", 15, t.kin("mbs", 1, 103));
        due("a woman's wife's name to a woman", 0, t.kin("mbd", 1, 103));
        Teller six = withRule("badecf/abcdef");
        due("six times", 6, six.kin("w", 0, 102));
        due("one to itself", 1, six.kin("w", 0, 101));
        due("three times", 3, six.kin("wbw", 0, 102));
        due("all lawful", 63, six.kin("w", 0, 103));
        due("own name is the wife's", 32, six.kin("z", 0, 103));
        due("own name is the husband's", 32, six.kin("b", 1, 103));
        due("all lawful of a woman", 63, six.kin("h", 1, 103));
        due("the husband of d", 2, six.kin("h", 1, 3));
        Teller cycle = withRule("bcdefa/abcdef");
        due("a circle of six", 6, cycle.kin("w", 0, 102));
        due("a circle of five", 5, withRule("bcdeaf/abcdef").kin("w", 0, 102));
        due("two circles", 4, withRule("bcdafe/abcdef").kin("w", 0, 102));
        t.feed("f");
        int[][] bad = {{0, 0, 0}, {41, 0, 0}, {21, 0, 0}, {-1, 0, 0}, {1, 2, 0}, {1, -1, 0}, {1, 0, 4}, {1, 0, -1},
            {1, 0, 99}, {1, 0, 105}, {1, 0, 6}};
        for (int[] b : bad) {
            due("kin " + b[0] + " " + b[1] + " " + b[2], NONE, t.v.kin(b[0], b[1], b[2]));
        }
        due("tape stays", 20, t.tape());
        t.feed("a");
        t.feed("a");
        due("41 of 60", NONE, t.v.kin(41, 0, 0));
        due("40 of 60", -1001, t.v.kin(40, 0, 0));
        Teller none = new Teller();
        due("no rule", NONE, none.kin("f", 0, 100));
        due("tape stays", 20, none.tape());
    }

    // 8
    private static void alike() {
        Teller t = withRule(FOUR);
        due("both to the wife", 15, t.alike("mbd", "fzd", 0));
        due("tape is empty", 0, t.tape());
        due("one to a man", -4, t.alike("f", "m", 0));
        due("mother's sister", 15, t.alike("m", "mz", 0));
        due("mother and sister", 0, t.alike("m", "z", 0));
        due("husband", 15, t.alike("h", "mbs", 1));
        due("some", 32, withRule("badecf/abcdef").alike("z", "w", 0));
        due("fault of the first", -1000, t.alike("x", "y", 0));
        due("fault of the second", -101000, t.alike("f", "y", 0));
        due("its own places", -106004, t.alike("ff", "9f9f9f", 0));
        due("no spouse of the second", -107001, t.alike("f", "fh", 0));
        due("no spouse of the first ahead", -7001, t.alike("fh", "x", 0));
        due("a fault ahead of unlike sorts", -107001, t.alike("m", "fh", 0));
        due("tape is empty", 0, t.tape());
        t.feed("fm");
        int[][] bad = {{0, 1, 0}, {1, 0, 0}, {41, 1, 0}, {1, 41, 0}, {1, 1, 2}, {1, 1, -1}, {10, 11, 0}, {20, 1, 0},
            {-1, 1, 0}, {1, -1, 0}, {1, Integer.MAX_VALUE, 0}};
        for (int[] b : bad) {
            due("alike " + b[0] + " " + b[1] + " " + b[2], NONE, t.v.alike(b[0], b[1], b[2]));
        }
        due("tape stays", 20, t.tape());
        due("all of the tape", -1002, t.v.alike(10, 10, 0));
        String forty = times("(f)", 11) + times("m", 7);
        due("forty bytes each", 15, t.alike(forty, forty, 1));
        t.feed(forty + forty);
        due("not 41", NONE, t.v.alike(40, 41, 1));
        t.empty();
        Teller none = new Teller();
        due("no rule", NONE, none.alike("f", "f", 0));
        due("tape stays", 20, none.tape());
    }

    // 9
    private static void ways() {
        Object[][] rules = {
            {"ab/ab", 1, 2, 1}, {"ba/ab", 2, 1, 1}, {"fedcba/abcdef", 2, 3, 1}, {"bca/abc", 3, 1, 1},
            {"bca/bac", 6, 1, 0}, {FOUR, 4, 1, 1}, {"bacd/abcd", 2, 3, 0}, {"bcdefa/bacdef", 720, 1, 0},
            {"badc/abcd", 2, 2, 1}, {"bcade/abced", 6, 2, 0}, {"bcdefa/abcdef", 6, 1, 1}, {"abcdef/bcdaef", 4, 3, 0},
            {"bcafde/abcdef", 3, 2, 1},
        };
        for (Object[] row : rules) {
            Teller t = withRule((String) row[0]);
            for (int what = 0; what < 3; what++) {
                due("ways of " + row[0] + " " + what, (Integer) row[1 + what], t.v.ways(what));
            }
            due("ways 3", NONE, t.v.ways(3));
            due("ways -1", NONE, t.v.ways(-1));
        }
    }

    // 10
    private static void term() {
        Teller t = withRule(FOUR);
        due("himself", 0, t.v.term(0, 0, 0, 0, 100));
        due("himself, a step", -4, t.v.term(0, 0, 0, 0, 0));
        due("wife", "w", t.term(0, 0, 1, 1));
        due("husband", "h", t.term(0, 1, 1, 0));
        due("sister", "z", t.term(0, 0, 0, 1));
        due("brother", "b", t.term(2, 1, 2, 0));
        due("father ahead of son", "f", t.term(0, 0, 3, 0));
        due("mother", "m", t.term(0, 0, 2, 1));
        due("mother's father", "mf", t.term(0, 0, 1, 0));
        due("a step", 'f', t.v.term(0, 0, 1, 0, 1));
        due("behind the last step", -4, t.v.term(0, 0, 1, 0, 2));
        due("the last step that may be asked", -4, t.v.term(0, 0, 1, 0, 11));
        Teller two = withRule("ab/ab");
        due("no word", -2, two.v.term(0, 0, 1, 0, 100));
        due("no word, a step", -2, two.v.term(0, 0, 1, 0, 11));
        due("any to himself", 0, two.v.term(1, 1, 1, 1, 100));
        int[][] bad = {{4, 0, 0, 0, 100}, {0, 2, 0, 0, 100}, {0, 0, 4, 0, 100}, {0, 0, 0, 2, 100}, {0, 0, 0, 0, 12},
            {0, 0, 0, 0, -1}, {0, 0, 0, 0, 99}, {0, 0, 0, 0, 101}, {-1, 0, 0, 0, 0}, {0, -1, 0, 0, 0}, {0, 0, -1, 0, 0}};
        for (int[] b : bad) {
            due("term", NONE, t.v.term(b[0], b[1], b[2], b[3], b[4]));
        }
        due("none ahead of -2", NONE, two.v.term(0, 0, 1, 0, 12));
        Teller far = withRule("bcdefa/abcdef");
        due("half way round", "fff", far.term(0, 0, 3, 0));
        due("wife ahead of daughter", "w", far.term(0, 0, 1, 1));
        due("mother ahead of sister", "m", far.term(0, 0, 0, 1));
    }

    // 11
    private static void cousin() {
        due("four", "fm", withRule(FOUR).cousin());
        due("own names", "m", withRule("ab/ab").cousin());
        due("daughter", "d", withRule("bca/abc").cousin());
        due("son's mother", "sm", withRule("bcda/bacd").cousin());
        due("sister", "z", withRule("ab/ba").cousin());
        NamedToWed v = withRule(FOUR).v;
        due("how many", 2, v.cousin(100));
        due("behind the last", -4, v.cousin(2));
        due("far behind", -4, v.cousin(99));
        due("101", NONE, v.cousin(101));
        due("-1", NONE, v.cousin(-1));
    }

    // 12
    private static void words() {
        NamedToWed v = withRule(FOUR).v;
        due("one: wife", 1, v.words(1, 0, 0, 1, 1));
        due("one: father, son", 2, v.words(1, 0, 0, 3, 0));
        due("one: daughter", 1, v.words(1, 0, 0, 3, 1));
        due("one: none", 0, v.words(1, 0, 0, 1, 0));
        due("two, back", 9, v.words(2, 0, 0, 0, 0));
        for (int k = 1; k <= 20; k++) {
            long all = 0;
            long sevens = 1;
            for (int i = 0; i < k; i++) {
                sevens *= 7;
            }
            for (int node = 0; node < 8; node++) {
                all += v.words(k, 2, 1, node / 2, node % 2);
            }
            due("all of " + k, sevens, all);
        }
        due("other side", 0, withRule("ab/ab").v.words(20, 0, 0, 1, 1));
        int[][] bad = {{0, 0, 0, 0, 0}, {21, 0, 0, 0, 0}, {-1, 0, 0, 0, 0}, {1, 4, 0, 0, 0}, {1, 0, 2, 0, 0},
            {1, 0, 0, 4, 0}, {1, 0, 0, 0, 2}, {1, -1, 0, 0, 0}, {1, 0, -1, 0, 0}, {1, 0, 0, -1, 0}, {1, 0, 0, 0, -1}};
        for (int[] b : bad) {
            due("words", NONE, v.words(b[0], b[1], b[2], b[3], b[4]));
        }
    }

    // 13
    private static void allRules() {
        Teller t = new Teller();
        Object[][] rows = {
            {2, "w", 2, 2}, {2, "z", 0, 0}, {2, "m", 1, 1}, {2, "f", 0, 0}, {3, "w", 12, 6}, {4, "w", 216, 36},
            {4, "mbd", 48, 36}, {5, "w", 5280, 120}, {5, "sm", 5280, 120}, {5, "mzd", 0, 0}, {3, "d", 2, 2},
        };
        for (Object[] row : rows) {
            due("all rules of " + row[0] + " " + row[1], (Integer) row[2], t.allRules((Integer) row[0], (String) row[1], 0));
            due("even ones of " + row[0] + " " + row[1], (Integer) row[3], t.allRules((Integer) row[0], (String) row[1], 1));
            due("tape", 0, t.tape());
        }
        due("still no rule", 0, t.v.count(1));
        due("a fault", -7000, t.allRules(2, "h", 0));
        due("a fault empties", 0, t.tape());
        t.feed("w");
        int[][] bad = {{1, 1, 0}, {6, 1, 0}, {2, 0, 0}, {2, 41, 0}, {2, 21, 0}, {2, 1, 2}, {2, 1, -1}, {-1, 1, 0}, {2, -1, 0}};
        for (int[] b : bad) {
            due("allRules", NONE, t.v.allRules(b[0], b[1], b[2]));
        }
        due("tape stays", 20, t.tape());
        Teller r = withRule("bca/bac");
        due("the rule told is not asked", 216, r.allRules(4, "w", 0));
        due("it stays", 1, r.v.nameIs(0, 5));
        due("it stays", 3, r.v.count(1));
    }

    // 14
    private static void personIs() {
        NamedToWed v = withRoll(FOUR, "Ma;F&0;M<0,1;F<0,1;Fc;Mb<-,4;M;F<6,-;M<2,-").v;
        int[][] rows = {
            {0, 0, 0, -2, -2, 1, 12, 0, 1, 0}, {1, 1, -2, -2, -2, 0, 12, 0, 2, 1}, {2, 0, -2, 0, 1, -2, 256, 8, 8, 3},
            {3, 1, -2, 0, 1, -2, 0, 4, 8, 3}, {4, 1, 2, -2, -2, -2, 32, 0, 0, -3}, {5, 0, 1, -2, 4, -2, 0, 0, 0, -3},
            {6, 0, -2, -2, -2, -2, 128, 0, 15, -2}, {7, 1, -2, 6, -2, -2, 0, 0, 15, -2}, {8, 0, -2, 2, -2, -2, 0, 0, 1, 0},
        };
        for (int[] row : rows) {
            for (int what = 0; what < 9; what++) {
                due("person " + row[0] + " " + what, row[1 + what], v.personIs(row[0], what));
            }
        }
        due("nobody", NONE, v.personIs(9, 0));
        due("below", NONE, v.personIs(-1, 0));
        due("no what", NONE, v.personIs(0, 9));
        due("no what", NONE, v.personIs(0, -1));
        NamedToWed half = withRoll(FOUR, "M;F;F;M<0,1;F<0,2;M<-,1;F<0,2").v;
        due("half siblings by either", 16 | 32 | 64, half.personIs(3, 6));
        due("by the mother alone", 8, half.personIs(5, 6));
        due("by both", 8 | 64, half.personIs(4, 6));
        NamedToWed unknown = withRoll(FOUR, "M<-,-;F<-,-").v;
        due("unknown parents make no siblings", 0, unknown.personIs(0, 6));
        NamedToWed any = withRoll("bac/abc", "F;M<-,0;F&1").v;
        due("all may be", 7, any.personIs(0, 7));
        NamedToWed own = withRoll("bac/abc", "M;F<0,-&0").v;
        due("wed to his daughter: by this rule she has the name of his wife", 7, own.personIs(0, 7));
        NamedToWed son = withRoll("bac/abc", "F;M<-,0&0").v;
        due("a mother wed to her son: but in own names", 4, son.personIs(0, 7));
        due("sure by how it hangs together", 2, son.personIs(1, 8));
        NamedToWed wrong = withRoll("bac/abc", "Fa;M<-,0&0").v;
        due("wrong by a told name", -3, wrong.personIs(1, 8));
    }

    // 15
    private static void houses() {
        NamedToWed v = withRoll(FOUR, "Ma;F&0;M<0,1;F<0,1;Fc;Mb<-,4;M;F<6,-;M<2,-").v;
        due("houses", 3, v.houses(0));
        due("wrong", 1, v.houses(1));
        due("whose", 48, v.houses(2));
        due("no what", NONE, v.houses(3));
        due("no what", NONE, v.houses(-1));
        NamedToWed apart = withRoll("ab/ab", "M;M;F;Fa&1;Mb<1,2;F").v;
        due("apart", 3, apart.houses(0));
        due("a man's child is not his wife's name", 1, apart.houses(1));
        due("all of that house", 2 | 4 | 8 | 16, apart.houses(2));
        NamedToWed father = withRoll(FOUR, "Ma;Md<0,-").v;
        due("a father's child", 0, father.houses(1));
        due("a father's child not so", 1, withRoll(FOUR, "Ma;Mc<0,-").v.houses(1));
        due("a mother's child", 0, withRoll(FOUR, "Fa;Mc<-,0").v.houses(1));
        due("a mother's child not so", 1, withRoll(FOUR, "Fa;Md<-,0").v.houses(1));
        due("unlawful wedding", 1, withRoll(FOUR, "Ma;Fc&0").v.houses(1));
        due("lawful wedding", 0, withRoll("bca/abc", "Ma;Fb&0").v.houses(1));
        due("lawful the other way round", 0, withRoll("bca/abc", "Fb;Ma&0").v.houses(1));
        due("not lawful the other way round", 1, withRoll("bca/abc", "Fa;Mb&0").v.houses(1));
    }

    // 16
    private static void mended() {
        NamedToWed v = withRoll(FOUR, "Ma;F&0;M<0,1;F<0,1;Fc;Mb<-,4;M;F<6,-;M<2,-").v;
        due("one", 1, v.mended(0));
        due("the child's, since its mother a comes behind its mother c", 32, v.mended(1));
        NamedToWed two = withRoll(FOUR, "Ma;Fa&0;Mc<0,1;Md<-,1").v;
        due("two go", 2, two.mended(0));
        due("of a head a", 2 | 4, two.mended(1));
        NamedToWed tie = withRoll(FOUR, "Md;Mb<0,-;Fa&0;Fc").v;
        // Head d asks for a son a and a wife c: two go; head c (son b, wife d), head b (son c, wife a): two go each.
        due("head b goes ahead of head c and d", 1 | 2, tie.mended(1));
        due("no what", NONE, v.mended(2));
        due("no what", NONE, v.mended(-1));
        due("nothing to mend", 0, withRoll(FOUR, "Ma;Fb&0").v.mended(0));
        due("nothing to mend", 0, withRoll(FOUR, "Ma;Fb&0").v.mended(1));
        Teller never = withRoll(FOUR, "M;F&0;F<0,1;M<-,2;M<3,1;Ma;Fa&5");
        due("never right", -2, never.v.mended(0));
        due("never right", -2, never.v.mended(1));
        due("no what ahead", NONE, never.v.mended(2));
        due("houses wrong", 2, never.v.houses(1));
        due("two houses", 2, withRoll(FOUR, "Ma;Fa&0;Mb;Fb&2").v.mended(0));
        due("the wives'", 2 | 4, withRoll(FOUR, "Ma;Fa&0;Mb;Fb&2").v.mended(1));
        Teller all = withRoll("bac/abc", "Fa;Ma<-,0&0" + times(";Ma<-,0", 22));
        due("all 24 go, since all must be c", 24, all.v.mended(0));
        due("head by a fixed name", 1, withRoll("bac/abc", "Fa;M<-,0&0").v.mended(1));
    }

    // 17
    private static void byTold() {
        NamedToWed v = withRoll(FOUR, "M;Ma;Fa&1;Mb;Fc&3;Mc<1,2;Md<-,2;Ma<3,4;Mb<1,-;Fb;Ma&9").v;
        due("weddings", 2, v.byTold(0));
        due("the first", 1, v.byTold(1));
        due("children", 1, v.byTold(2));
        due("the first child", 6, v.byTold(3));
        due("no what", NONE, v.byTold(4));
        due("no what", NONE, v.byTold(-1));
        NamedToWed order = withRoll(FOUR, "Ma;Ma;Fa&1;Fa&0").v;
        due("two", 2, order.byTold(0));
        due("by the lower one", 0, order.byTold(1));
        NamedToWed untold = withRoll(FOUR, "Ma;F&0;M;Fa&2;Mb<-,1;M<-,3").v;
        due("both must be told", 0, untold.byTold(0));
        due("none", -2, untold.byTold(1));
        due("no child", 0, untold.byTold(2));
        due("none", -2, untold.byTold(3));
        due("woman first", 0, withRoll("bca/abc", "Fb;Ma&0").v.byTold(0));
        due("woman first, wrong", 1, withRoll("bca/abc", "Fa;Mb&0").v.byTold(0));
    }

    // 18
    private static void whatIs() {
        Teller t = withRoll(FOUR, "Ma;F&0;M<0,1;F<0,1;Fc;Mb<-,4;M;F<6,-;M<2,-");
        String[] rows = {"0 1 w", "1 0 h", "0 3 d", "0 2 s", "2 3 z", "3 2 b", "2 1 m", "3 0 f", "3 8 bs", "8 1 fm",
            "8 3 fz", "0 8 ss", "1 8 ss", "4 5 s", "5 4 m", "7 6 f", "2 0 f", "0 0 ", "8 8 "};
        for (String row : rows) {
            String[] parts = row.split(" ", -1);
            due("what is " + row, parts[2], t.whatIs(Integer.parseInt(parts[0]), Integer.parseInt(parts[1])));
        }
        due("nothing", -2, t.v.whatIs(0, 4, 100));
        due("nothing, a step", -2, t.v.whatIs(0, 4, 23));
        due("behind the last", -4, t.v.whatIs(8, 3, 2));
        due("the last that may be asked", -4, t.v.whatIs(8, 3, 23));
        due("himself", 0, t.v.whatIs(4, 4, 100));
        int[][] bad = {{9, 0, 0}, {0, 9, 0}, {-1, 0, 0}, {0, -1, 0}, {0, 1, 24}, {0, 1, -1}, {0, 1, 99}, {0, 1, 101}};
        for (int[] b : bad) {
            due("whatIs", NONE, t.v.whatIs(b[0], b[1], b[2]));
        }
        Teller sons = withRoll("abcdef/abcdef", "M;M<0,-;M<0,-;F;M<1,-;F&2");
        due("a son's wife", "sw", sons.whatIs(0, 5));
        Teller row = withRoll("abcdef/abcdef", "M;F&0;M<0,-;M<-,1;F&2;F&3;M<2,5;M<3,4");
        due("by either of two", "ss", row.whatIs(0, 6));
        due("her son", "s", row.whatIs(4, 7));
        // From 0 to 4: by the son 2 a daughter (sd), by the other son 1 a sister (sz): d stands ahead of z.
        Teller set = withRoll("ab/ab", "M;M<0,-;M<0,-;F;F<2,3;F<-,3");
        due("a granddaughter", "sd", set.whatIs(0, 4));
        due("her half sister", "sdz", set.whatIs(0, 5));
        // The rows start with b, which leads to 2 and 3 at once: on by 2's wife's son, by 3's son's sister.
        Teller many = withRoll("ab/ab", "M;M<0,-;M<0,-;M<0,-;F&2;M<-,4;F;M<3,6;F<-,6");
        due("least of several rows", "bsz", many.whatIs(1, 8));
        due("a step-son", "bws", many.whatIs(1, 5));
        StringBuilder chain = new StringBuilder("M");
        for (int i = 0; i < 23; i++) {
            chain.append(";M<").append(i).append(",-");
        }
        Teller line = withRoll("ab/ab", chain.toString());
        due("23 steps", times("f", 23), line.whatIs(23, 0));
        due("23 steps back", times("s", 23), line.whatIs(0, 23));
        due("the last step", 'f', line.v.whatIs(23, 0, 22));
        due("no 24th", -4, line.v.whatIs(23, 0, 23));
    }

    // 19
    private static void those() {
        Teller t = withRoll(FOUR, "Ma;F&0;M<0,1;F<0,1;Fc;Mb<-,4;M;F<6,-;M<2,-");
        Object[][] rows = {{0, "d", 8}, {0, "s", 4}, {0, "ss", 256}, {8, "ff", 1}, {0, "ds", 0}, {0, "h", -7000}, {8, "fz", 8},
            {0, "2s", 256}, {2, "fs", 4}, {3, "mw", -7001}, {0, "w", 2}, {1, "h", 1}, {1, "w", -7000}, {0, "wd", 8},
            {0, "f", 0}, {2, "z", 8}, {2, "b", 0}, {3, "b", 4}, {8, "2(fm)", 0}, {6, "d", 128}, {6, "df", 64}, {0, "x", -1000}};
        for (Object[] row : rows) {
            due("those of " + row[0] + " " + row[1], (Integer) row[2], t.those((Integer) row[0], (String) row[1]));
            due("tape", 0, t.tape());
        }
        Teller half = withRoll("ab/ab", "M;F;F;M<0,1;F<0,2;M<-,1;F<0,2");
        due("all sisters", 16 | 64, half.those(3, "z"));
        due("brothers of sisters", 8, half.those(3, "zb"));
        due("himself among brothers' brothers", 8, half.those(3, "2b"));
        due("mothers of daughters", 4, half.those(0, "dm"));
        due("mothers of sons", 2, half.those(0, "sm"));
        due("fathers of all brothers and sisters", 1, half.those(4, "zf"));
        t.feed("f");
        int[][] bad = {{9, 1}, {-1, 1}, {0, 0}, {0, 41}, {0, 21}, {0, -1}};
        for (int[] b : bad) {
            due("those", NONE, t.v.those(b[0], b[1]));
        }
        due("tape stays", 20, t.tape());
    }

    // 20
    private static void mayWed() {
        NamedToWed v = withRoll(FOUR, "Ma;F&0;M<0,1;F<0,1;Fc;Mb<-,4;M;F<6,-;M<2,-").v;
        int[] due = {0, 0, 128, 64, 0, 0, 8, 4 | 256, 128};
        for (int p = 0; p < due.length; p++) {
            due("may wed " + p, due[p], v.mayWed(p));
        }
        due("nobody", NONE, v.mayWed(9));
        due("nobody", NONE, v.mayWed(-1));
        NamedToWed names = withRoll("bca/abc", "Ma;Fa;Fb;Fc;Mb;F").v;
        due("of the wife's name", 4 | 32, names.mayWed(0));
        due("of the wife's name", 8 | 32, names.mayWed(4));
        due("husbands of b", 1, names.mayWed(2));
        due("husbands of a", 0, names.mayWed(1));
        due("husbands of any", 1 | 16, names.mayWed(5));
        NamedToWed kin = withRoll("ab/ab", "M;F<0,-;M<0,-;F<2,-;F;M<-,4;M<-,4").v;
        due("not his daughter, but hers", 8 | 16, kin.mayWed(0));
        due("not her father, not her brother", 32 | 64, kin.mayWed(1));
        due("not his sister, not his daughter", 16, kin.mayWed(2));
        due("not her father", 1 | 32 | 64, kin.mayWed(3));
        due("not her sons", 1 | 4, kin.mayWed(4));
    }

    // 21
    private static void weddings() {
        due("two", 2, withRoll(FOUR, "Ma;F&0;M<0,1;F<0,1;Fc;Mb<-,4;M;F<6,-;M<2,-").v.weddings());
        due("one gives way", 2, withRoll("bca/abc", "M;Ma;Fb;Fc").v.weddings());
        due("two give way", 3, withRoll("ab/ab", "M;M;Ma;F;Fb;Fa").v.weddings());
        due("more men", 1, withRoll("ab/ab", "M;M;M;F").v.weddings());
        due("none fit", 0, withRoll("ab/ab", "Ma;Ma;Fb;Fb").v.weddings());
        due("wed ones are not counted", 0, withRoll("ab/ab", "Ma;Fa&0").v.weddings());
        due("twelve", 12, withRoll("ab/ab", times("M;F;", 11) + "M;F").v.weddings());
    }

    // 22
    private static void line() {
        NamedToWed v = withRoll(FOUR, "Ma;F&0;M<0,1;F<0,1;Fc;Mb<-,4;M;F<6,-;M<2,-").v;
        int[][] rows = {{3, 0, 0}, {3, 0, 0}, {1, 2, 1}, {0, 2, 1}, {1, 0, 0}, {0, 1, 1}, {1, 0, 0}, {0, 1, 1}, {0, 3, 2}};
        for (int p = 0; p < rows.length; p++) {
            for (int what = 0; what < 3; what++) {
                due("line " + p + " " + what, rows[p][what], v.line(p, what));
            }
        }
        due("nobody", NONE, v.line(9, 0));
        due("nobody", NONE, v.line(-1, 0));
        due("no what", NONE, v.line(0, 3));
        due("no what", NONE, v.line(0, -1));
        // Both parents of 5 come from 0; by its mother it is farther.
        NamedToWed once = withRoll("ab/ab", "M;F;M<0,1;F<0,1;F<2,-;M<2,4;M<5,3").v;
        due("each once", 5, once.line(0, 0));
        due("each once", 6, once.line(6, 1));
        due("the most steps", 4, once.line(6, 2));
        due("of its mother's side", 3, once.line(5, 2));
    }

    // 23
    private static void years() {
        Teller t = withRule("ba/ab");
        t.v.people(0, 10, 7, 0);
        t.v.people(1, 4, 6, 0);
        due("weddings", 5, t.v.years(1));
        due("the year", 1, t.v.count(0));
        due("men of a", 7, t.v.nameIs(0, 0));
        due("women of a", 5, t.v.nameIs(0, 1));
        due("couples of a", 3, t.v.nameIs(0, 2));
        due("couples of b", 2, t.v.nameIs(1, 2));
        due("one child, of the name b", 2 + 3 + 1, t.v.nameIs(1, 0) + t.v.nameIs(1, 1));
        int x = 1;
        for (int i = 0; i < 3; i++) {
            x = (25173 * x + 13849) % 65536;
        }
        due("a boy, if the draw is even", x % 10 % 2 == 0 ? 3 : 2, t.v.nameIs(1, 0));
        for (int i = 0; i < 3; i++) {
            x = (25173 * x + 13849) % 65536;
        }
        due("six draws", x, t.v.count(7));
        due("years 0", NONE, t.v.years(0));
        due("years 101", NONE, t.v.years(101));
        due("years -1", NONE, t.v.years(-1));
        due("no year", 1, t.v.count(0));
        most();
        parts();
        oddOnes();
        lastYear();
    }

    /** What THE LAW does not tell, its bounds, and the year among its letters. */
    private static void parts() {
        Teller t = withRule("ba/ab");
        t.v.people(0, 100, 100, 100);
        due("forty children of a hundred couples", 40, t.v.tried(1, 1));
        due("two of a hundred die, of couples both", 2 + 2 + 2 * 2, t.v.tried(1, 2));
        t.law("b301(1=1);d101(1=1)");
        due("three hundred at most", 300, t.v.tried(1, 1));
        due("all of a at most", 100 + 100 + 2 * 100, t.v.tried(1, 2) - 300);
        t.law("b0-1(1=1);d0-1(1=1)");
        due("none at least", 0, t.v.tried(1, 1) + t.v.tried(1, 2));
        Teller late = withRule("ba/ab");
        late.v.years(100);
        late.v.years(3);
        late.law("wt(1=1);b0(1=1);d0(1=1)");
        late.v.people(0, 100, 0, 0);
        late.v.people(1, 0, 100, 0);
        due("the year modulo 100", 3, late.v.tried(1, 0));
        due("and the next year's", 3 + 97 * 4 / 100, late.v.tried(2, 0));
    }

    private static void oddOnes() {
        Teller t = withRule("ba/ab");
        t.law("b100(n=0);b300(1=1);d0(1=1)");
        t.v.people(0, 0, 0, 1);
        t.v.people(1, 0, 0, 1);
        for (int seed = 0; seed < 40; seed++) {
            t.v.seed(seed);
            int x = seed;
            for (int i = 0; i < 3; i++) {
                x = (25173 * x + 13849) % 65536;
            }
            int boy = 1 - x % 10 % 2;
            due("an odd one of seed " + seed, boy, t.v.tried(1, 11));
            due("else a girl of seed " + seed, 1 - boy, t.v.tried(1, 21));
            x = (25173 * x + 13849) % 65536;
            boy = 1 - x % 10 % 2;
            due("three of seed " + seed, 1 + boy, t.v.tried(1, 10));
            due("three of seed " + seed, 2 - boy, t.v.tried(1, 20));
        }
    }

    private static void most() {
        Teller t = withRule("ba/ab");
        t.law("w100(1=1);b300(1=1);d0(1=1)");
        t.v.people(0, 50, 0, 9990);
        t.v.people(1, 0, 20, 0);
        due("no more than to 9999", 9, t.v.years(1));
        due("couples", 9999, t.v.nameIs(0, 2));
        due("men", 41, t.v.nameIs(0, 0));
        due("boys are 9999 at most", 9999, t.v.nameIs(1, 0));
        due("girls are 9999 at most", 9999, t.v.nameIs(1, 1));
        // Births of a's couples are named by the child's of the wife's.
        Teller c = withRule("bca/bac");
        c.law("w0(1=1);b300(n=0);d0(1=1)");
        c.v.people(0, 0, 0, 2);
        c.v.years(1);
        due("three boys of the name a", 3, c.v.nameIs(0, 0));
        due("three girls", 3, c.v.nameIs(0, 1));
        due("in all", 2 + 2 + 6, c.v.count(8));
        // By then: the second name's weddings see the first one's, its draws too.
        Teller s = withRule("ba/ab");
        s.law("w100(n=0|k=0&m=3);d0(1=1);b0(1=1);x(n=1&p<15)");
        s.v.people(0, 2, 5, 0);
        s.v.people(1, 3, 2, 0);
        due("weddings by then", 2, s.v.tried(1, 0));
        s.law("w100(n=0|v=5);d0(1=1);b0(1=1)");
        due("weddings by then", 5, s.v.tried(1, 0));
        s.law("w100(1=1);d0(1=1);b100(n=0);b50*k(1=1)");
        due("births behind all weddings", 2 + 3 * 150 / 100, s.v.tried(1, 1));
        s.law("w100(n=0);w0(1=1);d100(m=0&k>0);d0(1=1);b0(1=1)");
        due("deaths behind the weddings", 4 + 5, s.v.tried(1, 2));
    }

    private static void lastYear() {
        Teller t = withRule("ab/ab");
        t.law("d0(1=1)");
        t.v.people(0, 1, 1, 0);
        for (int i = 0; i < 99; i++) {
            due("a hundred years", 0, t.v.years(100));
        }
        due("year 9900", 9900, t.v.count(0));
        due("as many as can", 0, t.v.years(100));
        due("year 9999", 9999, t.v.count(0));
        int x = t.v.count(7);
        t.v.people(0, 100, 100, 0);
        due("none goes by", 0, t.v.years(5));
        due("none is tried", 0, t.v.tried(5, 0));
        due("none dies out", -2, t.v.diesOut(0, 5));
        due("year 9999", 9999, t.v.count(0));
        due("no draw", x, t.v.count(7));
        due("all are there", 200, t.v.count(8));
    }

    // 24
    private static void tried() {
        Teller t = withRule(FOUR);
        t.v.people(0, 10, 4, 6);
        t.v.people(1, 3, 8, 0);
        int[][] rows = {{0, 5}, {1, 4}, {2, 0}, {3, 41}, {10, 6}, {21, 4}, {30, 10}, {31, 1}, {13, 2}, {23, 2}};
        for (int[] row : rows) {
            due("tried " + row[0], row[1], t.v.tried(1, row[0]));
        }
        due("nothing is changed", 37, t.v.count(8));
        due("nor the year", 0, t.v.count(0));
        due("nor X", 1, t.v.count(7));
        int[][] bad = {{0, 0}, {101, 0}, {1, -1}, {1, 4}, {1, 9}, {1, 14}, {1, 24}, {1, 34}, {1, 40}, {1, 19}, {-1, 0}};
        for (int[] b : bad) {
            due("tried " + b[0] + " " + b[1], NONE, t.v.tried(b[0], b[1]));
        }
        int wed = t.v.tried(7, 0);
        int then = t.v.tried(7, 3);
        int men = t.v.tried(7, 12);
        due("as then", wed, t.v.years(7));
        due("all as then", then, t.v.count(8));
        due("men as then", men, t.v.nameIs(2, 0));
        Teller many = withRule("ab/ab");
        many.law("b300(1=1);d50(1=1)");
        many.v.people(0, 9999, 9999, 9999);
        due("births beyond 9999", 29997, many.v.tried(1, 1));
        due("a couple are two", 2 * (9999 / 2) + 2 * (9999 / 2), many.v.tried(1, 2));
    }

    // 25
    private static void nameIs() {
        NamedToWed v = withRule("bca/cab").v;
        v.people(0, 1, 2, 3);
        v.people(1, 10, 20, 30);
        v.people(2, 100, 200, 300);
        int[][] rows = {{1, 2, 3, 1 + 2 + 3 + 300, 1, 2}, {10, 20, 30, 10 + 20 + 30 + 3, 2, 0},
            {100, 200, 300, 100 + 200 + 300 + 30, 0, 1}};
        for (int name = 0; name < 3; name++) {
            for (int what = 0; what < 6; what++) {
                due("name " + name + " " + what, rows[name][what], v.nameIs(name, what));
            }
        }
        due("no name", NONE, v.nameIs(3, 0));
        due("no name", NONE, v.nameIs(-1, 0));
        due("no what", NONE, v.nameIs(0, 6));
        due("no what", NONE, v.nameIs(0, -1));
    }

    // 26
    private static void diesOut() {
        Teller t = withRule("ba/ab");
        due("it has", 0, t.v.diesOut(0, 1));
        t.v.people(0, 4, 0, 0);
        t.law("d50(1=1)");
        // 4, 2, 1, and half of one is none.
        due("never by halves", -2, t.v.diesOut(0, 100));
        due("b has", 0, t.v.diesOut(1, 100));
        t.law("d50(a>1);d100(1=1)");
        due("behind three", 3, t.v.diesOut(0, 3));
        due("not in two", -2, t.v.diesOut(0, 2));
        due("nothing is changed", 4, t.v.count(8));
        t.v.people(0, 0, 0, 1);
        due("a wife has her name", 1, t.v.diesOut(1, 5));
        int[][] bad = {{2, 1}, {-1, 1}, {0, 0}, {0, 101}, {0, -1}};
        for (int[] b : bad) {
            due("diesOut", NONE, t.v.diesOut(b[0], b[1]));
        }
    }

    // 27
    private static void left() {
        Teller t = withRule("bca/abc");
        t.v.people(0, 5, 9, 0);
        t.v.people(1, 3, 7, 0);
        t.v.people(2, 6, 4, 0);
        due("5 - 7, 3 - 4, 6 - 9", 1, t.v.left(0));
        due("how many", -1, t.v.left(1));
        t.v.people(0, 6, 9, 0);
        due("the lowest of like ones", 0, t.v.left(0));
        due("how many", -1, t.v.left(1));
        due("no what", -100000, t.v.left(2));
        due("no what", -100000, t.v.left(-1));
    }

    // 28
    private static void seed() {
        Teller t = withRule("ab/ab");
        due("seed", true, t.v.seed(65535));
        due("X", 65535, t.v.count(7));
        due("beyond", false, t.v.seed(65536));
        due("below", false, t.v.seed(-1));
        due("X stays", 65535, t.v.count(7));
        t.v.years(1);
        int x = 65535;
        for (int i = 0; i < 6; i++) {
            x = (int) ((25173L * x + 13849) % 65536);
        }
        due("draws", x, t.v.count(7));
        due("seed 0", true, t.v.seed(0));
        due("X 0", 0, t.v.count(7));
    }

    // 29, 30
    private static void keepAndUndo() {
        Teller t = withRule(FOUR);
        due("none kept", false, t.v.undo());
        t.v.years(3);
        t.v.people(0, 1, 2, 3);
        t.v.people(3, 4, 5, 6);
        int x = t.v.count(7);
        due("kept", 3, t.v.keep());
        t.v.people(1, 9, 9, 9);
        t.v.years(2);
        due("undone", true, t.v.undo());
        due("year", 3, t.v.count(0));
        due("X", x, t.v.count(7));
        due("a", 1 + 2 + 3, t.v.nameIs(0, 0) + t.v.nameIs(0, 1) + t.v.nameIs(0, 2));
        due("b", 0, t.v.nameIs(1, 0) + t.v.nameIs(1, 2));
        due("d", 6, t.v.nameIs(3, 2));
        t.v.people(0, 50, 50, 50);
        due("undone again", true, t.v.undo());
        due("a again", 1, t.v.nameIs(0, 0));
        t.rule("ba/ab");
        due("undone with fewer names", true, t.v.undo());
        due("of two", 12 - 3, t.v.count(8));
        t.rule("abcdef/abcdef");
        due("empty", 0, t.v.count(8));
        t.v.people(4, 7, 7, 7);
        t.v.people(5, 7, 7, 7);
        due("undone with more names", true, t.v.undo());
        due("all kept ones are there", 1 + 2 + 6 + 4 + 5 + 12, t.v.count(8));
        due("others are empty", 0, t.v.nameIs(4, 3) + t.v.nameIs(5, 3));
        t.rule("ab/ab");
        t.v.people(0, 8, 0, 0);
        due("kept of two", 3, t.v.keep());
        t.rule(FOUR);
        t.v.people(2, 8, 8, 8);
        t.v.undo();
        due("the last that was kept", 8, t.v.count(8));
        Teller early = new Teller();
        early.v.seed(9);
        due("kept with no rule", 0, early.v.keep());
        early.rule("ab/ab");
        early.v.people(0, 1, 1, 1);
        early.v.seed(8);
        due("undone", true, early.v.undo());
        due("nobody", 0, early.v.count(8));
        due("X", 9, early.v.count(7));
        due("the rule stays", 2, early.v.count(1));
    }

    // 31
    private static void check() {
        Teller t = withRule("bca/abc");
        t.v.people(0, 200, 100, 1);
        t.v.people(1, 2, 2, 0);
        int a = 301 - 256;
        due("right", NONE, t.check(a, 5, 0));
        due("the first", 0, t.check(a + 1, 5, 0));
        due("the second", 1, t.check(a, 6, 1));
        due("the third", 2, t.check(a, 5, 1));
        due("none of names there are not", NONE, t.check(a, 5, 0, 0, 0, 0));
        due("of names there are not 0", 4, t.check(a, 5, 0, 0, 7, 0));
        due("the tape is empty", 0, t.tape());
        t.feed("abc");
        due("-1", -2, t.v.check(-1));
        due("7", -2, t.v.check(7));
        due("tape stays", 20, t.tape());
        due("none asked", NONE, t.v.check(0));
        due("empty then", 0, t.tape());
        due("has not so many", -2, t.v.check(1));
        due("none of an empty tape", NONE, t.v.check(0));
    }

    // 32
    private static void count() {
        Teller t = withRoll(FOUR, "Ma;F&0;M<0,1;F<0,1;Fc;Mb<-,4;M;F<6,-;M<2,-");
        t.law("x(n=0);x(n=1)");
        t.v.people(3, 1, 1, 4);
        t.v.years(1);
        t.feed("abc");
        int[] due = {1, 4, 9, 1 | 4 | 32 | 64 | 256, 3, 2, 20};
        for (int what = 0; what < due.length; what++) {
            due("count " + what, due[what], t.v.count(what));
        }
        int x = 1;
        for (int i = 0; i < 12; i++) {
            x = (25173 * x + 13849) % 65536;
        }
        due("X", x, t.v.count(7));
        due("all, with one child", 11, t.v.count(8));
        due("9", NONE, t.v.count(9));
        due("-1", NONE, t.v.count(-1));
        due("the constant", -1, NamedToWed.NONE);
    }

    // ---- a call that is refused changes nothing but the tape ----

    private static String all(NamedToWed v) {
        StringBuilder all = new StringBuilder();
        for (int what = 0; what < 9; what++) {
            all.append(what == 6 ? 0 : v.count(what)).append(' ');
        }
        for (int name = 0; name < v.count(1); name++) {
            for (int what = 0; what < 6; what++) {
                all.append(v.nameIs(name, what)).append(' ');
            }
        }
        for (int p = 0; p < v.count(2); p++) {
            for (int what = 0; what < 9; what++) {
                all.append(v.personIs(p, what)).append(' ');
            }
        }
        for (int what = 0; what < 4; what++) {
            all.append(v.houses(what)).append(' ').append(v.tried(3, what)).append(' ').append(v.tried(3, 30 + what)).append(' ');
        }
        return all.append(v.mended(1)).append(' ').append(v.weddings()).toString();
    }

    private static void refusedCallsChangeNothing() {
        Teller t = withRoll(FOUR, "Ma;F&0;M<0,1;Fc;Mb<-,3");
        t.law("w80(n<2);b60(1=1);d9(q>4)");
        t.v.people(0, 90, 80, 70);
        t.v.people(1, 60, 80, 70);
        t.v.people(2, 50, 40, 30);
        t.v.years(4);
        String before = all(t.v);
        t.rule("badc/cdaa");
        due("rule", before, all(t.v));
        t.roll("Mb;Fa&0;Mz");
        due("roll", before, all(t.v));
        t.law("w0(1=1);b0(1=1);d0(1=1);x");
        due("law", before, all(t.v));
        t.allRules(5, "mbd", 1);
        t.allRules(2, "fh", 0);
        due("allRules", before, all(t.v));
        t.v.ways(0);
        t.v.cousin(100);
        t.v.term(0, 0, 1, 1, 100);
        t.v.words(9, 0, 0, 1, 1);
        t.v.diesOut(0, 50);
        t.v.people(0, 1, 2, 10000);
        t.v.years(0);
        t.v.seed(70000);
        t.v.keep();
        due("asking", before, all(t.v));
    }
}
