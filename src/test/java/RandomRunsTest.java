import java.util.ArrayList;
import java.util.List;
import java.util.Random;

/** Random runs of calls, each answered by the class and by Model. Arguments: how many runs, the first seed. */
public final class RandomRunsTest {
    private static final int CALLS = 512;

    private final Random random;
    private final NamedToWed valley = new NamedToWed();
    private final Model model = new Model();
    private final StringBuilder told = new StringBuilder();
    private final int flavour;
    private int calls;
    private int names;
    private int[] wife = new int[0];
    private int[] child = new int[0];

    private RandomRunsTest(long seed) {
        random = new Random(seed);
        flavour = random.nextInt(4);
    }

    public static void main(String[] args) {
        int runs = args.length > 0 ? Integer.parseInt(args[0]) : 600;
        long first = args.length > 1 ? Long.parseLong(args[1]) : 1;
        int wrong = 0;
        for (long seed = first; seed < first + runs && wrong < 3; seed++) {
            RandomRunsTest run = new RandomRunsTest(seed);
            String fault = run.play();
            if (fault != null) {
                wrong++;
                System.out.println("run " + seed + ": " + fault);
            }
        }
        System.out.println("RandomRunsTest: " + (wrong == 0 ? runs + " runs as Model answers" : wrong + " runs wrong"));
        if (wrong != 0) {
            System.exit(1);
        }
    }

    private String play() {
        try {
            while (calls < CALLS - 40) {
                step();
            }
            return null;
        } catch (IllegalStateException wrong) {
            return wrong.getMessage();
        }
    }

    private void same(String call, long got, long due) {
        calls++;
        told.append("\n  ").append(call).append(" = ").append(due);
        if (got != due) {
            throw new IllegalStateException(call + " answered " + got + ", Model says " + due + told);
        }
    }

    private int below(int n) {
        return random.nextInt(n);
    }

    private boolean chance(int hundredths) {
        return below(100) < hundredths;
    }

    /** Mostly from 0 to most - 1, at times just outside or far away. */
    private int about(int most) {
        if (chance(4)) {
            return new int[] {-1, most, most + 1, Integer.MIN_VALUE, Integer.MAX_VALUE, -2}[below(6)];
        }
        return most > 0 ? below(most) : 0;
    }

    private int stepWhat(int most) {
        return chance(30) ? 100 : chance(80) ? below(4) : about(most);
    }

    private void step() {
        int kind = below(100);
        if (names == 0 && kind < 60 || kind < 2) {
            tellRule();
        } else if (kind < 14) {
            tellRoll();
        } else if (kind < 26) {
            tellLaw();
        } else if (kind < 46) {
            if (flavour == 0) {
                askNames();
            }
            askWord();
        } else if (kind < 64) {
            askPeople();
        } else if (kind < 72) {
            askNames();
        } else if (kind < 76) {
            fill();
        } else {
            askVillage();
        }
    }

    // ---- texts ----

    private int feed(String text) {
        String rest = text;
        while (!rest.isEmpty()) {
            int[] five = new int[5];
            for (int i = 0; i < 20; i++) {
                int c = i < rest.length() ? rest.charAt(i) : "a0Mf(;".charAt(below(6));
                five[i / 4] |= c << 24 - i % 4 * 8;
            }
            rest = rest.length() > 20 ? rest.substring(20) : "";
            same("feed(" + text + ")", valley.feed(five[0], five[1], five[2], five[3], five[4]),
                    model.feed(five[0], five[1], five[2], five[3], five[4]));
        }
        if (chance(3)) {
            return new int[] {0, -1, text.length() + 21, 241, 21, 41, Integer.MAX_VALUE}[below(7)];
        }
        return chance(2) ? text.length() + below(3) : text.length();
    }

    private String spoiled(String text, String signs) {
        StringBuilder spoiled = new StringBuilder(text);
        for (int i = chance(70) ? 1 : 2; i > 0; i--) {
            int place = below(spoiled.length() + 1);
            char sign = chance(5) ? (char) below(256) : signs.charAt(below(signs.length()));
            int way = below(4);
            if (way == 0 || place == spoiled.length()) {
                spoiled.insert(place, sign);
            } else if (way == 1) {
                spoiled.setCharAt(place, sign);
            } else if (way == 2) {
                spoiled.deleteCharAt(place);
            } else {
                spoiled.setLength(place);
            }
        }
        return spoiled.length() == 0 ? "?" : spoiled.toString();
    }

    private String row(int n) {
        List<Character> left = new ArrayList<>();
        for (int i = 0; i < n; i++) {
            left.add((char) ('a' + i));
        }
        StringBuilder row = new StringBuilder();
        while (!left.isEmpty()) {
            row.append(left.remove(below(left.size())));
        }
        return row.toString();
    }

    private void tellRule() {
        int n = 2 + below(5);
        String text = row(n) + "/" + row(n);
        if (chance(40)) {
            text = spoiled(text, "abcdef/g");
        }
        int length = feed(text);
        int due = model.rule(length);
        same("rule(" + length + ")", valley.rule(length), due);
        if (due > 0) {
            names = due;
            wife = new int[names];
            child = new int[names];
            for (int i = 0; i < names; i++) {
                wife[i] = valley.nameIs(i, 4);
                child[i] = valley.nameIs(i, 5);
            }
            calls += 2 * names;
        }
    }

    private String word(int open, int length) {
        StringBuilder word = new StringBuilder();
        for (int i = 1 + below(length); i > 0; i--) {
            if (chance(20)) {
                word.append(2 + below(open == 0 && chance(80) ? 3 : 8));
            }
            if (chance(20) && open < 2 || chance(1)) {
                word.append('(').append(word(open + 1, 3)).append(')');
            } else {
                word.append("fmhwsdbzfmsd".charAt(below(12)));
            }
        }
        return word.toString();
    }

    /** A word mostly right, even by its spouses. */
    private String wordFor(int sort) {
        String text = word(0, 1 + below(7));
        for (int i = 0; i < 20 && chance(90) && spouseFault(text, sort); i++) {
            text = word(0, 1 + below(5));
        }
        return chance(15) ? spoiled(text, "fmhwsdbz()()23456789") : text.length() > 42 ? text.substring(0, 42) : text;
    }

    private static boolean spouseFault(String text, int sort) {
        Model trial = new Model();
        for (String part : new String[] {"ab/ab", text}) {
            for (int from = 0; from < part.length(); from += 20) {
                int[] five = new int[5];
                for (int i = 0; i < 20 && from + i < part.length(); i++) {
                    five[i / 4] |= part.charAt(from + i) << 24 - i % 4 * 8;
                }
                trial.feed(five);
            }
            if (part.equals("ab/ab")) {
                trial.rule(5);
            }
        }
        return trial.kin(text.length(), sort, 100) < 0;
    }

    private void tellRoll() {
        String text = rollText();
        if (chance(15)) {
            text = spoiled(text, "MFMFabcdef<<,,--&&;;0123456789");
        }
        int length = feed(text.length() > 250 ? text.substring(0, 250) : text);
        same("roll(" + length + ")", valley.roll(length), model.roll(length));
        if (chance(50)) {
            askAllPeople();
        }
    }

    private String rollText() {
        int size = 1 + below(chance(50) ? 8 : 25);
        int[] named = new int[size];
        boolean[] man = new boolean[size];
        boolean[] wed = new boolean[size];
        boolean tidy = chance(70) && names > 0;
        int toldOften = below(100);
        int wrongOften = chance(50) ? 0 : below(20);
        StringBuilder text = new StringBuilder();
        for (int p = 0; p < size; p++) {
            man[p] = chance(50);
            named[p] = below(Math.max(2, names));
            int father = p > 0 && chance(60) ? below(p) : -1;
            int mother = p > 0 && chance(60) ? below(p) : -1;
            int spouse = p > 0 && chance(50) ? below(p) : -1;
            father = father >= 0 && (man[father] || chance(1)) ? father : -1;
            mother = mother >= 0 && (!man[mother] || chance(1)) ? mother : -1;
            spouse = spouse >= 0 && (man[spouse] != man[p] && !wed[spouse] || chance(1)) ? spouse : -1;
            if (tidy) {
                if (mother >= 0) {
                    named[p] = child[named[mother]];
                    father = father >= 0 && wife[named[father]] == named[mother] ? father : -1;
                } else if (father >= 0) {
                    named[p] = child[wife[named[father]]];
                } else if (spouse >= 0) {
                    named[p] = man[p] ? husbandName(named[spouse]) : wife[named[spouse]];
                }
                boolean lawful = spouse >= 0 && (man[p] ? wife[named[p]] == named[spouse] : wife[named[spouse]] == named[p]);
                spouse = lawful ? spouse : -1;
            }
            text.append(p > 0 ? ";" : "").append(man[p] ? 'M' : 'F');
            if (chance(toldOften)) {
                text.append((char) ('a' + (chance(wrongOften) ? below(Math.max(2, names)) : named[p])));
            }
            if (father >= 0 || mother >= 0 || chance(3)) {
                text.append('<').append(number(father)).append(',').append(number(mother));
            }
            if (spouse >= 0) {
                wed[p] = true;
                wed[spouse] = true;
                text.append('&').append(number(spouse));
            }
        }
        return text.toString();
    }

    private int husbandName(int name) {
        for (int i = 0; i < names; i++) {
            if (wife[i] == name) {
                return i;
            }
        }
        return 0;
    }

    private String number(int p) {
        return p < 0 ? "-" : p < 10 && chance(5) ? "0" + p : String.valueOf(p);
    }

    private void tellLaw() {
        StringBuilder text = new StringBuilder();
        for (int i = 1 + below(chance(85) ? 4 : 18); i > 0; i--) {
            String kind = String.valueOf("wbdx".charAt(below(4)));
            String clause = kind + (kind.equals("x") ? "" : chance(50) ? String.valueOf(below(320)) : sum(0))
                    + "(" + choice(0) + ")";
            text.append(text.length() == 0 ? "" : ";").append(clause);
        }
        String whole = text.length() > 245 ? "w50(" + choice(1) + ")" : text.toString();
        if (chance(20)) {
            whole = spoiled(whole, "wbdx([!)]<>=&|+-*/%nmvkaptq0123456789;");
        }
        int length = feed(whole.length() > 250 ? whole.substring(0, 250) : whole);
        same("law(" + length + ")", valley.law(length), model.law(length));
        if (chance(60)) {
            int n = 1 + below(6);
            for (int what : new int[] {0, 1, 2, 3, 10, 20, 31}) {
                same("tried(" + n + ", " + what + ")", valley.tried(n, what), model.tried(n, what));
            }
        }
    }

    private String choice(int depth) {
        return part(depth) + (chance(25) ? "|" + choice(depth) : "");
    }

    private String part(int depth) {
        return test(depth) + (chance(25) ? "&" + part(depth) : "");
    }

    private String test(int depth) {
        if (depth < 8 && chance(15)) {
            return "!" + test(depth + 1);
        }
        if (depth < 8 && chance(15)) {
            return "(" + choice(depth + 1) + ")";
        }
        return sum(depth) + "<>=".charAt(below(3)) + sum(depth);
    }

    private String sum(int depth) {
        return term(depth) + (chance(25) ? "+-".charAt(below(2)) + sum(depth) : "");
    }

    private String term(int depth) {
        return factor(depth) + (chance(25) ? "*/%".charAt(below(3)) + term(depth) : "");
    }

    private String factor(int depth) {
        if (depth < 8 && chance(12)) {
            return "[" + sum(depth + 1) + "]";
        }
        return chance(50) ? String.valueOf("nmvkaptq".charAt(below(8)))
                : String.valueOf(below(chance(70) ? 10 : chance(90) ? 1000 : 99999));
    }

    // ---- questions ----

    private void askWord() {
        int sort = chance(2) ? about(2) : below(2);
        int way = below(10);
        if (way < 5) {
            int length = feed(wordFor(sort));
            int what = chance(50) ? 100 + below(6) : about(names);
            same("kin(" + length + ", " + sort + ", " + what + ")",
                    valley.kin(length, sort, what), model.kin(length, sort, what));
        } else if (way < 7) {
            String one = wordFor(sort);
            String other = wordFor(sort);
            int length = feed(one + other);
            int n = length == one.length() + other.length() ? one.length() : length;
            int m = chance(2) ? about(41) : other.length();
            same("alike(" + n + ", " + m + ", " + sort + ")", valley.alike(n, m, sort), model.alike(n, m, sort));
        } else if (way < 9) {
            int p = about(model.count(2));
            String text = wordFor(p >= 0 && p < model.count(2) ? model.personIs(p, 0) : 0);
            int length = feed(text);
            same("those(" + p + ", " + length + ")", valley.those(p, length), model.those(p, length));
        } else {
            int many = chance(5) ? about(7) : chance(4) ? 5 : 2 + below(3);
            int length = feed(wordFor(0));
            int what = about(2);
            same("allRules(" + many + ", " + length + ", " + what + ")",
                    valley.allRules(many, length, what), model.allRules(many, length, what));
        }
    }

    private void askNames() {
        int name = about(names);
        int to = about(names);
        int sort = about(2);
        int toSort = about(2);
        int what = stepWhat(12);
        int way = below(5);
        if (way == 0) {
            what = about(3);
            same("ways(" + what + ")", valley.ways(what), model.ways(what));
        } else if (way == 1) {
            same("cousin(" + what + ")", valley.cousin(what), model.cousin(what));
        } else if (way == 2) {
            int k = chance(5) ? about(21) : 1 + below(20);
            same("words(" + k + ", " + name + ", " + sort + ", " + to + ", " + toSort + ")",
                    valley.words(k, name, sort, to, toSort), model.words(k, name, sort, to, toSort));
        } else {
            same("term(" + name + ", " + sort + ", " + to + ", " + toSort + ", " + what + ")",
                    valley.term(name, sort, to, toSort, what), model.term(name, sort, to, toSort, what));
        }
    }

    private void askAllPeople() {
        for (int what = 0; what < 3; what++) {
            same("houses(" + what + ")", valley.houses(what), model.houses(what));
        }
        for (int what = 0; what < 4; what++) {
            same("byTold(" + what + ")", valley.byTold(what), model.byTold(what));
            same("mended(" + what + ")", valley.mended(what), model.mended(what));
            same("count(" + (what + 1) + ")", valley.count(what + 1), model.count(what + 1));
        }
        same("weddings()", valley.weddings(), model.weddings());
    }

    private void askPeople() {
        int size = model.count(2);
        int p = about(size);
        int q = about(size);
        int what = about(9);
        int way = below(10);
        if (way < 4) {
            same("personIs(" + p + ", " + what + ")", valley.personIs(p, what), model.personIs(p, what));
        } else if (way < 6) {
            what = stepWhat(24);
            same("whatIs(" + p + ", " + q + ", " + what + ")", valley.whatIs(p, q, what), model.whatIs(p, q, what));
        } else if (way == 6) {
            same("mayWed(" + p + ")", valley.mayWed(p), model.mayWed(p));
        } else if (way == 7) {
            what = about(3);
            same("line(" + p + ", " + what + ")", valley.line(p, what), model.line(p, what));
        } else if (way == 8) {
            what = about(4);
            same("houses(" + what + ")", valley.houses(what), model.houses(what));
            same("mended(" + what + ")", valley.mended(what), model.mended(what));
            same("byTold(" + what + ")", valley.byTold(what), model.byTold(what));
        } else {
            same("weddings()", valley.weddings(), model.weddings());
        }
    }

    private int some() {
        return chance(3) ? new int[] {-1, 10000, 9999, 0}[below(4)] : chance(15) ? below(10000) : below(60);
    }

    private void fill() {
        for (int i = 0; i < 3; i++) {
            int name = about(names);
            int men = some();
            int women = some();
            int couples = some();
            same("people(" + name + ", " + men + ", " + women + ", " + couples + ")",
                    valley.people(name, men, women, couples) ? 1 : 0, model.people(name, men, women, couples) ? 1 : 0);
        }
    }

    private void askVillage() {
        int way = below(12);
        int n = chance(5) ? about(101) : 1 + below(chance(80) ? 5 : 100);
        int name = about(names);
        if (way < 2) {
            same("years(" + n + ")", valley.years(n), model.years(n));
        } else if (way < 4) {
            int what = chance(40) ? about(4) : 10 * (1 + below(3)) + about(names);
            same("tried(" + n + ", " + what + ")", valley.tried(n, what), model.tried(n, what));
        } else if (way < 6) {
            int what = about(6);
            same("nameIs(" + name + ", " + what + ")", valley.nameIs(name, what), model.nameIs(name, what));
        } else if (way == 6) {
            same("diesOut(" + name + ", " + n + ")", valley.diesOut(name, n), model.diesOut(name, n));
        } else if (way == 7) {
            int what = about(2);
            same("left(" + what + ")", valley.left(what), model.left(what));
        } else if (way == 8) {
            int x = chance(10) ? about(65536) : below(65536);
            same("seed(" + x + ")", valley.seed(x) ? 1 : 0, model.seed(x) ? 1 : 0);
        } else if (way == 9) {
            if (chance(50)) {
                same("keep()", valley.keep(), model.keep());
            } else {
                same("undo()", valley.undo() ? 1 : 0, model.undo() ? 1 : 0);
            }
        } else if (way == 10) {
            check();
        } else {
            int what = about(9);
            same("count(" + what + ")", valley.count(what), model.count(what));
        }
    }

    private void check() {
        int size = below(7);
        StringBuilder bytes = new StringBuilder();
        for (int i = 0; i < size; i++) {
            bytes.append((char) (chance(90) ? i < names ? model.nameIs(i, 3) & 255 : 0 : below(256)));
        }
        int n = feed(bytes.toString());
        same("check(" + n + ")", valley.check(n), model.check(n));
    }
}
