import java.util.ArrayList;
import java.util.List;
import java.util.function.BiConsumer;

/** The bounds of ON NAMES: promises 7 to 13. */
public final class NamesBoundsTest {
    private static final String CIRCLE = Cases.CIRCLE;

    private NamesBoundsTest() {
    }

    public static void main(String[] args) {
        Cases.run(NamesBoundsTest.class);
    }

    private static String own(int names) {
        String letters = "abcdef".substring(0, names);
        return letters + "/" + letters;
    }

    // ---- promise 7 ----

    static void promise7NamesAndOtherWhats() {
        for (int names = 2; names <= 6; names++) {
            Teller t = Cases.withRule(own(names));
            for (int what = -2; what < 8; what++) {
                boolean is = what >= 0 && what < names;
                t.empty();
                Cases.due("kin " + what + " of " + names, is ? what : Cases.NONE, t.kin("z", 0, what));
                Cases.due("the tape", is ? 0 : 20, t.tape());
            }
            int[] due = {Cases.NONE, 1, names, 1, 0, 1, Cases.NONE};
            for (int what = 99; what <= 105; what++) {
                t.empty();
                Cases.due("kin " + what, what == 103 ? (1 << names) - 1 : due[what - 99], t.kin("z", 0, what));
            }
            for (int what : Cases.FAR) {
                t.empty();
                Cases.due("kin " + what, Cases.NONE, t.kin("z", 0, what));
            }
        }
    }

    static void promise7AManOrAWoman() {
        Teller t = Cases.withRule(Cases.FOUR);
        for (int bad : new int[] {-1, 2, Integer.MIN_VALUE, Integer.MAX_VALUE}) {
            Cases.due("sort " + bad, Cases.NONE, t.kin("f", bad, 100));
            Cases.due("the tape stays", 20, t.tape());
            t.empty();
        }
    }

    static void promise7OneToFortyBytes() {
        Teller t = Cases.withRule(Cases.FOUR);
        t.feed(Cases.times("f", 24) + Cases.times("!", 36));
        for (int bad : new int[] {0, -1, 41, 60, 61, Integer.MIN_VALUE, Integer.MAX_VALUE}) {
            Cases.due("n " + bad, Cases.NONE, t.v.kin(bad, 0, 100));
            Cases.due("the tape stays", 60, t.tape());
        }
        Cases.due("its bytes, too", 24, t.v.kin(24, 0, 104));
        Cases.due("empty then", Cases.NONE, t.v.kin(1, 0, 104));
        t.feed("f");
        Cases.due("21 of 20", Cases.NONE, t.v.kin(21, 0, 104));
        Cases.due("20 of 20", -1001, t.v.kin(20, 0, 104));
    }

    static void promise7NoRule() {
        Teller t = new Teller();
        Cases.due("kin", Cases.NONE, t.kin("f", 0, 100));
        Cases.due("the tape stays", 20, t.tape());
    }

    static void promise7NoneAheadOfAFault() {
        Teller t = Cases.withRule(Cases.FOUR);
        t.feed("!");
        Cases.due("no such name", Cases.NONE, t.v.kin(1, 0, 4));
        Cases.due("no such sort", Cases.NONE, t.v.kin(1, 2, 0));
        Cases.due("no such number", Cases.NONE, t.v.kin(41, 0, 0));
        Cases.due("the tape stays", 20, t.tape());
        Cases.due("the fault", -1000, t.v.kin(1, 0, 0));
    }

    static void promise7ToOneselfNoneToAll() {
        Teller t = Cases.withRule("bcadef/abcdef");
        Cases.due("all", 6, t.kin("b", 0, 101));
        Cases.due("three", 3, t.kin("w", 0, 101));
        Cases.due("none", 0, Cases.withRule(CIRCLE).kin("w", 0, 101));
    }

    static void promise7OnceAtLeast() {
        Teller t = Cases.withRule(Cases.FOUR);
        Cases.due("a brother", 1, t.kin("b", 0, 102));
        Cases.due("a father's father", 1, t.kin("2f", 0, 102));
        Cases.due("a wife", 2, t.kin("w", 0, 102));
    }

    static void promise7TheSortsAside() {
        // From the name it led to on, again a man's word: w leads by the names of wives, three times round.
        Cases.due("w", 3, Cases.withRule("bca/abc").kin("w", 0, 102));
        Cases.due("h", 3, Cases.withRule("bca/abc").kin("h", 1, 102));
        // A man's d is the child's of the wife's, a woman's d the child's of her own.
        Cases.due("a man's d", 3, Cases.withRule("bca/abc").kin("d", 0, 102));
        Cases.due("a woman's d", 1, Cases.withRule("bca/abc").kin("d", 1, 102));
    }

    static void promise7HowOftenAtMost() {
        String[] rules = {"ab/ab", "ba/ab", "bca/abc", "bcda/abcd", "bcdea/abcde", "badec/abcde", CIRCLE, "bcdeaf/abcdef", "bcdafe/abcdef",
            "badecf/abcdef"};
        int[] due = {1, 2, 3, 4, 5, 6, 6, 5, 4, 6};
        for (int i = 0; i < rules.length; i++) {
            Cases.due("w by " + rules[i], due[i], Cases.withRule(rules[i]).kin("w", 0, 102));
        }
    }

    static void promise7EachStepByTheSortOfTheOneBefore() {
        // The wife of a is b, of b c, of c a; a child has its mother's name: a man's is his wife's.
        Teller t = Cases.withRule("bca/abc");
        Cases.due("a mother's son has one's own name", 3, t.kin("ms", 0, 101));
        Cases.due("a father's son, too", 3, t.kin("fs", 0, 101));
        Cases.due("a wife's son has hers", 1, t.kin("ws", 0, 0));
        Cases.due("a son's son has the second one's", 2, t.kin("2s", 0, 0));
        Cases.due("a daughter's son has hers", 1, t.kin("ds", 0, 0));
        Cases.due("a woman's son's daughter has the next one's", 1, t.kin("sd", 1, 0));
        Cases.due("a woman's daughter's daughter has her own", 0, t.kin("2d", 1, 0));
    }

    static void promise7LawfulTheOtherSort() {
        Teller t = Cases.withRule("ab/ab");
        Cases.due("a man's sister", 3, t.kin("z", 0, 103));
        Cases.due("a man's brother", 0, t.kin("b", 0, 103));
        Cases.due("a woman's brother", 3, t.kin("b", 1, 103));
        Cases.due("a woman's sister", 0, t.kin("z", 1, 103));
    }

    static void promise7LawfulFromSome() {
        Teller t = Cases.withRule("bacdef/abcdef");
        Cases.due("a man's sister", 60, t.kin("z", 0, 103));
        Cases.due("a man's wife", 63, t.kin("w", 0, 103));
        Teller three = Cases.withRule("bca/abc");
        Cases.due("of the husband's husband's name: not the wife's", 0, three.kin("wf", 0, 103));
        Cases.due("a woman's husband", 7, three.kin("h", 1, 103));
        Cases.due("a woman's husband's wife's brother", 0, three.kin("hwb", 1, 103));
    }

    // ---- promise 8 ----

    static void promise8NamesNoneToAll() {
        Teller t = Cases.withRule("bacdef/abcdef");
        Cases.due("all", 63, t.alike("w", "w", 0));
        Cases.due("some", 60, t.alike("w", "z", 0));
        Cases.due("none", 0, Cases.withRule(CIRCLE).alike("w", "z", 0));
    }

    static void promise8OneToFortyBytesEach() {
        String forty = Cases.times("(f)", 8) + Cases.times("f", 16);
        Teller t = Cases.withRule(Cases.FOUR);
        Cases.due("40 and 40", 15, t.alike(forty, forty, 0));
        Cases.due("1 and 1", 15, t.alike("f", "s", 0));
        t.feed(forty + forty + forty);
        for (int bad : new int[] {0, -1, 41, Integer.MIN_VALUE, Integer.MAX_VALUE}) {
            Cases.due("first " + bad, Cases.NONE, t.v.alike(bad, 40, 0));
            Cases.due("second " + bad, Cases.NONE, t.v.alike(40, bad, 0));
        }
        Cases.due("the tape stays", 120, t.tape());
    }

    static void promise8TheTapeHasNotSoMany() {
        Teller t = Cases.withRule(Cases.FOUR);
        t.feed("fffffffffffffffffffs");
        Cases.due("20 and 1 of 20", Cases.NONE, t.v.alike(20, 1, 0));
        Cases.due("1 and 20 of 20", Cases.NONE, t.v.alike(1, 20, 0));
        Cases.due("21 and 1 of 20", Cases.NONE, t.v.alike(21, 1, 0));
        Cases.due("the tape stays", 20, t.tape());
        Cases.due("19 and 1 of 20", 15, t.v.alike(19, 1, 0));
        Cases.due("empty then", Cases.NONE, t.v.alike(1, 1, 0));
    }

    static void promise8NoSuchSortNoRule() {
        Teller t = Cases.withRule(Cases.FOUR);
        for (int bad : new int[] {-1, 2, Integer.MIN_VALUE, Integer.MAX_VALUE}) {
            t.empty();
            Cases.due("sort " + bad, Cases.NONE, t.alike("!", "!", bad));
            Cases.due("the tape stays", 20, t.tape());
        }
        Teller none = new Teller();
        Cases.due("no rule", Cases.NONE, none.alike("f", "f", 0));
        Cases.due("the tape stays", 20, none.tape());
    }

    static void promise8MinusFourUnlikeSorts() {
        Teller t = Cases.withRule(Cases.FOUR);
        Cases.due("f, m", -4, t.alike("f", "m", 0));
        Cases.due("m, f", -4, t.alike("m", "f", 1));
        Cases.due("wh, w", -4, t.alike("wh", "w", 0));
        Cases.due("the tape is empty", 0, t.tape());
    }

    static void promise8MinusFourBehindAllFaults() {
        Teller t = Cases.withRule(Cases.FOUR);
        Cases.due("a second that can't be", -107001, t.alike("m", "fh", 0));
        Cases.due("a first that can't be", -7001, t.alike("fh", "m", 0));
        Cases.due("a second", -101001, t.alike("m", "2", 0));
    }

    static void promise8AFaultOfTheFirstOneFirst() {
        Teller t = Cases.withRule(Cases.FOUR);
        Cases.due("both", -1000, t.alike("!", "!", 0));
        Cases.due("its 7, too", -7000, t.alike("h", "!", 0));
        Cases.due("the tape is empty", 0, t.tape());
    }

    static void promise8TheSecondByItsOwnPlacesLess100000() {
        Teller t = Cases.withRule(Cases.FOUR);
        Cases.due("1", -101000, t.alike("fff", "!", 0));
        Cases.due("5", -105002, t.alike("fff", "(((", 0));
        Cases.due("6", -106004, t.alike("fff", "9f9f9f", 0));
        Cases.due("7", -107001, t.alike("fff", "zw", 0));
        Cases.due("the end", -101002, t.alike("fff", "(f", 0));
        Cases.due("the tape is empty", 0, t.tape());
    }

    static void promise8TheFirstEndsWhereItEnds() {
        Teller t = Cases.withRule(Cases.FOUR);
        t.feed("f2m");
        Cases.due("f2 has no end", -1002, t.v.alike(2, 1, 0));
        t.feed("f2m");
        Cases.due("f, then 2m", -4, t.v.alike(1, 2, 0));
    }

    // ---- promise 9 ----

    static void promise9WaysOneTo720() {
        String[] rules = {own(2), own(6), "ba/ab", "bca/abc", "bca/bac", "bcda/bacd", "bcdea/bacde", "bcdefa/bacdef"};
        int[] due = {1, 1, 2, 3, 6, 24, 120, 720};
        for (int i = 0; i < rules.length; i++) {
            Cases.due("ways of " + rules[i], due[i], Cases.withRule(rules[i]).v.ways(0));
        }
    }

    static void promise9SidesOneToSix() {
        String[] rules = {own(2), own(6), "badcfe/abcdef", "abcdef/badcfe", "bacdef/acbdef", CIRCLE, "abcdef/bcdefa", "ba/ba"};
        int[] due = {2, 6, 3, 3, 4, 1, 1, 1};
        for (int i = 0; i < rules.length; i++) {
            Cases.due("sides of " + rules[i], due[i], Cases.withRule(rules[i]).v.ways(1));
        }
    }

    static void promise9EvenToItselfToo() {
        // One name that stays alone is come to by two ways from itself.
        String[] rules = {own(2), own(6), "bac/abc", "badcfe/abcdef", "badcef/abcdef", "badc/bacd", "badc/cdab", "bca/bac",
            "badc/abdc", CIRCLE, "bcafde/bcadef", "bcafde/bcaefd", "bcafde/bcafde"};
        int[] due = {1, 1, 0, 1, 0, 0, 1, 0, 0, 1, 0, 0, 1};
        for (int i = 0; i < rules.length; i++) {
            Cases.due("even " + rules[i], due[i], Cases.withRule(rules[i]).v.ways(2));
        }
    }

    static void promise9NoSuchWhatNoRule() {
        NamedToWed v = Cases.withRule(own(2)).v;
        for (int bad : new int[] {-1, 3, Integer.MIN_VALUE, Integer.MAX_VALUE}) {
            Cases.due("ways " + bad, Cases.NONE, v.ways(bad));
        }
        for (int what = 0; what < 3; what++) {
            Cases.due("no rule", Cases.NONE, new NamedToWed().ways(what));
        }
    }

    /** Asks of each rule of so many names. */
    private static void ofAllRules(int names, BiConsumer<NamedToWed, Model> asking) {
        List<String> sides = new ArrayList<>();
        addRows("", "abcdef".substring(0, names), sides);
        for (String wives : sides) {
            for (String children : sides) {
                NamedToWed v = Cases.withRule(wives + "/" + children).v;
                Model model = new Model();
                model.feedText(wives + "/" + children);
                model.rule(2 * names + 1);
                asking.accept(v, model);
            }
        }
    }

    private static void addRows(String row, String left, List<String> into) {
        if (left.isEmpty()) {
            into.add(row);
        }
        for (int i = 0; i < left.length(); i++) {
            addRows(row + left.charAt(i), left.substring(0, i) + left.substring(i + 1), into);
        }
    }

    static void promise9OfAllRulesOfTwoToFourNames() {
        for (int names = 2; names <= 4; names++) {
            ofAllRules(names, (v, model) -> {
                for (int what = 0; what < 3; what++) {
                    Cases.due("ways " + what, model.ways(what), v.ways(what));
                }
            });
        }
    }

    // ---- promise 10 ----

    static void promise10TheSameNone() {
        Teller t = Cases.withRule(CIRCLE);
        for (int node = 0; node < 12; node++) {
            Cases.due("steps", 0, t.v.term(node / 2, node % 2, node / 2, node % 2, 100));
            Cases.due("a step", -4, t.v.term(node / 2, node % 2, node / 2, node % 2, 0));
        }
    }

    static void promise10TheLeastRow() {
        // From a man of a: f leads to f's, s to b's; a woman of b is by w ahead of d.
        Teller t = Cases.withRule(CIRCLE);
        Cases.due("to a man of f", "f", t.term(0, 0, 5, 0));
        Cases.due("to a man of b", "s", t.term(0, 0, 1, 0));
        Cases.due("to a woman of a", "m", t.term(0, 0, 0, 1));
        Cases.due("to a woman of b", "w", t.term(0, 0, 1, 1));
        Cases.due("to a woman of f", "fm", t.term(0, 0, 5, 1));
        Cases.due("to a woman of c", "sw", t.term(0, 0, 2, 1));
        Cases.due("to a woman of d", "ssw", t.term(0, 0, 3, 1));
        Cases.due("to a woman of e", "ffm", t.term(0, 0, 4, 1));
        Cases.due("to a man of d, as far either way", "fff", t.term(0, 0, 3, 0));
        Teller own = Cases.withRule(own(2));
        Cases.due("f ahead of s and b", "f", own.term(0, 1, 0, 0));
        Cases.due("m ahead of w, d and z", "m", own.term(0, 0, 0, 1));
    }

    static void promise10StepsHusbandAndWifeOfTheOtherSortAlone() {
        Teller t = Cases.withRule(CIRCLE);
        Cases.due("a woman of b's husband", "f", t.term(1, 1, 0, 0));
        Cases.due("a man of a's wife", "w", t.term(0, 0, 1, 1));
        Cases.due("a woman of a to one of b", "sw", t.term(0, 1, 1, 1));
    }

    static void promise10WhatZeroToElevenAnd100() {
        Teller t = Cases.withRule(CIRCLE);
        Cases.due("steps", 1, t.v.term(0, 0, 5, 0, 100));
        Cases.due("step 0", 'f', t.v.term(0, 0, 5, 0, 0));
        for (int what = 1; what < 12; what++) {
            Cases.due("no step " + what, -4, t.v.term(0, 0, 5, 0, what));
        }
        for (int bad : new int[] {-1, 12, 13, 99, 101, Integer.MIN_VALUE, Integer.MAX_VALUE}) {
            Cases.due("what " + bad, Cases.NONE, t.v.term(0, 0, 5, 0, bad));
        }
    }

    static void promise10MinusTwoAheadOfMinusFour() {
        Teller t = Cases.withRule(own(2));
        Cases.due("steps", -2, t.v.term(0, 0, 1, 0, 100));
        for (int what = 0; what < 12; what++) {
            Cases.due("step " + what, -2, t.v.term(0, 0, 1, 1, what));
        }
        Cases.due("none ahead of it", Cases.NONE, t.v.term(0, 0, 1, 0, 12));
    }

    static void promise10NoSuchOnes() {
        Teller t = Cases.withRule(own(2));
        for (int bad : new int[] {-1, 2, 6, Integer.MIN_VALUE, Integer.MAX_VALUE}) {
            Cases.due("name " + bad, Cases.NONE, t.v.term(bad, 0, 0, 0, 100));
            Cases.due("sort " + bad, Cases.NONE, t.v.term(0, bad, 0, 0, 100));
            Cases.due("to name " + bad, Cases.NONE, t.v.term(0, 0, bad, 0, 100));
            Cases.due("to sort " + bad, Cases.NONE, t.v.term(0, 0, 0, bad, 100));
        }
        Cases.due("no rule", Cases.NONE, new NamedToWed().term(0, 0, 0, 0, 100));
    }

    // ---- promise 11 ----

    static void promise11WithoutHusbandsAndWives() {
        // A wife is one step; without w she is a son's mother, if nothing is ahead of that.
        Cases.due("a son's mother", "sm", Cases.withRule("bcda/bacd").cousin());
        Cases.due("a son's mother, of five names", "sm", Cases.withRule("bcdea/bcdea").cousin());
        Cases.due("a mother", "m", Cases.withRule(own(6)).cousin());
        Cases.due("a daughter", "d", Cases.withRule("bca/abc").cousin());
        Cases.due("a father's mother", "fm", Cases.withRule(Cases.FOUR).cousin());
        Cases.due("a sister", "z", Cases.withRule("ab/ba").cousin());
    }

    static void promise11WhatZeroTo99And100() {
        NamedToWed v = Cases.withRule(Cases.FOUR).v;
        Cases.due("steps", 2, v.cousin(100));
        Cases.due("step 0", 'f', v.cousin(0));
        Cases.due("step 1", 'm', v.cousin(1));
        for (int what = 2; what < 100; what++) {
            Cases.due("no step " + what, -4, v.cousin(what));
        }
        for (int bad : new int[] {-1, 101, 102, Integer.MIN_VALUE, Integer.MAX_VALUE}) {
            Cases.due("what " + bad, Cases.NONE, v.cousin(bad));
        }
    }

    static void promise11NoRule() {
        Cases.due("steps", Cases.NONE, new NamedToWed().cousin(100));
        Cases.due("a step", Cases.NONE, new NamedToWed().cousin(0));
    }

    static void promise11FromEachNameAtOnce() {
        // A mother and a sister have the wife's name from c and d alone.
        Cases.due("a daughter", "d", Cases.withRule("bacd/abcd").cousin());
    }

    static void promise11OfAllRulesOfTwoToFourNames() {
        for (int names = 2; names <= 4; names++) {
            ofAllRules(names, (v, model) -> {
                Cases.due("steps", model.cousin(100), v.cousin(100));
                for (int what = 0; what < 3; what++) {
                    Cases.due("step " + what, model.cousin(what), v.cousin(what));
                }
            });
        }
    }

    // ---- promise 12 ----

    static void promise12OneToTwentySteps() {
        Teller t = Cases.withRule(own(2));
        Cases.due("one", 3, t.v.words(1, 0, 0, 0, 0));
        Cases.due("one", 4, t.v.words(1, 0, 0, 0, 1));
        Cases.due("one of a woman", 4, t.v.words(1, 0, 1, 0, 0));
        Cases.due("one of a woman", 3, t.v.words(1, 0, 1, 0, 1));
        Cases.due("two", 3 * 3 + 4 * 4, t.v.words(2, 0, 0, 0, 0));
        Cases.due("two", 3 * 4 + 4 * 3, t.v.words(2, 0, 0, 0, 1));
        long same = 1;
        long other = 0;
        for (int k = 1; k <= 20; k++) {
            long before = same;
            same = 3 * same + 4 * other;
            other = 4 * before + 3 * other;
            Cases.due("words of " + k, same, t.v.words(k, 1, 0, 1, 0));
            Cases.due("words of " + k, other, t.v.words(k, 1, 1, 1, 0));
        }
        Cases.due("of twenty, more than an int holds", 79792266297612001L, same + other);
        for (int bad : new int[] {0, -1, 21, Integer.MIN_VALUE, Integer.MAX_VALUE}) {
            Cases.due("words of " + bad, Cases.NONE, t.v.words(bad, 0, 0, 0, 0));
        }
    }

    static void promise12NoneThatLeadThere() {
        Cases.due("another side", 0, Cases.withRule(own(6)).v.words(20, 0, 0, 5, 0));
        Cases.due("too far", 0, Cases.withRule(CIRCLE).v.words(2, 0, 0, 3, 0));
        Cases.due("by three: fff and sss", 2, Cases.withRule(CIRCLE).v.words(3, 0, 0, 3, 0));
    }

    static void promise12NoSuchOnes() {
        NamedToWed v = Cases.withRule(own(2)).v;
        for (int bad : new int[] {-1, 2, 6, Integer.MIN_VALUE, Integer.MAX_VALUE}) {
            Cases.due("name " + bad, Cases.NONE, v.words(1, bad, 0, 0, 0));
            Cases.due("sort " + bad, Cases.NONE, v.words(1, 0, bad, 0, 0));
            Cases.due("to name " + bad, Cases.NONE, v.words(1, 0, 0, bad, 0));
            Cases.due("to sort " + bad, Cases.NONE, v.words(1, 0, 0, 0, bad));
        }
        Cases.due("no rule", Cases.NONE, new NamedToWed().words(1, 0, 0, 0, 0));
    }

    // ---- promise 13 ----

    static void promise13TwoToFiveNames() {
        // Nobody weds his own name: 1, 2, 9, 44 ways of wives; each with all ways of children: 2, 6, 24, 120.
        Teller t = new Teller();
        int[] all = {2, 12, 216, 5280};
        for (int names = 2; names <= 5; names++) {
            Cases.due("all of " + names, all[names - 2], t.allRules(names, "w", 0));
        }
        for (int bad : new int[] {0, 1, 6, 7, -1, Integer.MIN_VALUE, Integer.MAX_VALUE}) {
            t.empty();
            Cases.due("names " + bad, Cases.NONE, t.allRules(bad, "w", 0));
            Cases.due("the tape stays", 20, t.tape());
        }
    }

    static void promise13EvenAndOfOneSide() {
        Teller t = new Teller();
        // Of two: wives change, children change or don't. Of five: a circle of wives (24), children by its ways (5).
        Cases.due("of two", 2, t.allRules(2, "w", 1));
        Cases.due("of five", 120, t.allRules(5, "w", 1));
        // Of three: two circles of wives, each with three ways of children that don't leave it.
        Cases.due("of three", 6, t.allRules(3, "w", 1));
        // Of four: six circles with the four ways of each; three pairings, with each of the other two pairings
        // for the children, or with one of the two circles that are the pairing if done twice.
        Cases.due("of four", 6 * 4 + 3 * 2 + 3 * 2, t.allRules(4, "w", 1));
    }

    static void promise13ToTheSameSortOrOwnNameNone() {
        Teller t = new Teller();
        for (String word : new String[] {"b", "f", "s", "wh", "z", "2z"}) {
            for (int names = 2; names <= 5; names++) {
                Cases.due(word + " of " + names, 0, t.allRules(names, word, 0));
                Cases.due(word + " of " + names, 0, t.allRules(names, word, 1));
            }
        }
    }

    static void promise13OneWayOfChildrenForEachWayOfWives() {
        // A mother is lawful if she has her children's names as they have their wives'.
        Teller t = new Teller();
        int[] due = {1, 2, 9, 44};
        for (int names = 2; names <= 5; names++) {
            Cases.due("mother", due[names - 2], t.allRules(names, "m", 0));
        }
    }

    static void promise13WhatZeroAndOne() {
        Teller t = new Teller();
        for (int bad : new int[] {-1, 2, Integer.MIN_VALUE, Integer.MAX_VALUE}) {
            t.empty();
            Cases.due("what " + bad, Cases.NONE, t.allRules(2, "w", bad));
            Cases.due("the tape stays", 20, t.tape());
        }
    }

    static void promise13OneToFortyBytes() {
        Teller t = new Teller();
        String forty = Cases.times("(z)", 8) + Cases.times("z", 15) + "m";
        Cases.due("bytes", 40, forty.length());
        Cases.due("40", 1, t.allRules(2, forty, 0));
        t.feed(forty + "m");
        for (int bad : new int[] {0, -1, 41, 61, Integer.MIN_VALUE, Integer.MAX_VALUE}) {
            Cases.due("n " + bad, Cases.NONE, t.v.allRules(2, bad, 0));
            Cases.due("the tape stays", 60, t.tape());
        }
        t.empty();
        Cases.due("it has not so many", Cases.NONE, t.v.allRules(2, 1, 0));
    }

    static void promise13NoneAheadOfAFault() {
        Teller t = new Teller();
        t.feed("h");
        Cases.due("names", Cases.NONE, t.v.allRules(6, 1, 0));
        Cases.due("what", Cases.NONE, t.v.allRules(2, 1, 2));
        Cases.due("the fault of a man", -7000, t.v.allRules(2, 1, 0));
        Cases.due("empty then", 0, t.tape());
    }

    static void promise13TheRuleToldIsNotAskedAndStays() {
        Teller t = Cases.withRoll(Cases.FOUR, "Ma;F&0");
        t.v.people(3, 1, 2, 3);
        Cases.due("of two", 2, t.allRules(2, "w", 0));
        Cases.due("of five", 5280, t.allRules(5, "w", 0));
        Cases.due("a fault", -1000, t.allRules(5, "!", 0));
        Cases.due("names", 4, t.v.count(1));
        for (int name = 0; name < 4; name++) {
            Cases.due("wife", "badc".charAt(name) - 'a', t.v.nameIs(name, 4));
            Cases.due("child", "cdab".charAt(name) - 'a', t.v.nameIs(name, 5));
        }
        Cases.due("sure", 1, t.v.personIs(1, 8));
        Cases.due("couples", 3, t.v.nameIs(3, 2));
        Cases.due("with no rule", 0, new Teller().v.count(1));
    }
}
