import java.math.BigInteger;
import java.util.ArrayDeque;
import java.util.ArrayList;
import java.util.Arrays;
import java.util.Collections;
import java.util.HashMap;
import java.util.HashSet;
import java.util.LinkedHashMap;
import java.util.LinkedHashSet;
import java.util.List;
import java.util.Map;
import java.util.Set;
import java.util.TreeMap;
import java.util.TreeSet;

/**
 * The document once more, written as slowly and plainly as it can be, with the whole Java library:
 * RandomRunsTest compares the class with it.
 */
final class Model {
    static final String ORDER = "fmhwsdbz";

    /** A fault of a text. */
    static final class Fault extends RuntimeException {
        private static final long serialVersionUID = 1L;
        final int code;

        Fault(int number, int place) {
            super(null, null, false, false);
            code = -1000 * number - place;
        }
    }

    /** A division by 0. */
    static final class Refused extends RuntimeException {
        private static final long serialVersionUID = 1L;

        Refused() {
            super(null, null, false, false);
        }
    }

    interface Expression {
        int of(Map<Character, Integer> letters);
    }

    static final class Clause {
        char kind;
        Expression worth;
        Expression condition;
    }

    static final class Person {
        boolean man;
        int told = -1;
        int father = -1;
        int mother = -1;
        int wed = -1;
    }

    static final class Settlement {
        int[] men = new int[6];
        int[] women = new int[6];
        int[] couples = new int[6];
        int year;
        int x = 1;
        int weddings;
        int births;
        int deaths;

        Settlement copy() {
            Settlement s = new Settlement();
            s.men = men.clone();
            s.women = women.clone();
            s.couples = couples.clone();
            s.year = year;
            s.x = x;
            return s;
        }
    }

    private final List<Integer> tape = new ArrayList<>();
    private int names;
    private int[] wife = new int[0];
    private int[] child = new int[0];
    private List<Person> people = new ArrayList<>();
    private List<Clause> law = new ArrayList<>();
    private Settlement village = new Settlement();
    private Settlement keptVillage;
    private int keptNames;

    // ---- the tape ----

    int feed(int... five) {
        if (tape.size() + 20 > 260) {
            return -1;
        }
        for (int i : five) {
            tape.add(i >>> 24);
            tape.add(i >>> 16 & 255);
            tape.add(i >>> 8 & 255);
            tape.add(i & 255);
        }
        return tape.size();
    }

    /** Feeds a text, and blanks behind it till there are twenty, forty and so on. */
    void feedText(String text) {
        for (int from = 0; from < text.length(); from += 20) {
            int[] five = new int[5];
            for (int i = 0; i < 20; i++) {
                five[i / 4] = five[i / 4] << 8 | (from + i < text.length() ? text.charAt(from + i) : ' ');
            }
            feed(five);
        }
    }

    private boolean lacks(int n, int most) {
        return n < 1 || n > most || n > tape.size();
    }

    private String take(int n) {
        StringBuilder text = new StringBuilder();
        for (int i = 0; i < n; i++) {
            text.append((char) (int) tape.get(i));
        }
        tape.clear();
        return text.toString();
    }

    private static char at(String text, int place) {
        return place < text.length() ? text.charAt(place) : '\uffff';
    }

    // ---- the rule ----

    int rule(int n) {
        if (lacks(n, 20)) {
            return -1;
        }
        String text = take(n);
        int[][] told;
        try {
            told = readRule(text);
        } catch (Fault fault) {
            return fault.code;
        }
        wife = told[0];
        child = told[1];
        names = wife.length;
        village.men = new int[6];
        village.women = new int[6];
        village.couples = new int[6];
        for (Person p : people) {
            if (p.told >= names) {
                p.told = -1;
            }
        }
        return names;
    }

    private static int[][] readRule(String text) {
        int slash = 0;
        for (; at(text, slash) != '/'; slash++) {
            char c = at(text, slash);
            if (c < 'a' || c > 'f' || slash == 6) {
                throw new Fault(1, slash);
            }
            if (text.indexOf(c) < slash) {
                throw new Fault(6, slash);
            }
        }
        if (slash < 2) {
            throw new Fault(1, slash);
        }
        for (int i = 0; i < slash; i++) {
            if (text.charAt(i) - 'a' >= slash) {
                throw new Fault(3, i);
            }
        }
        for (int i = slash + 1; i < 2 * slash + 1; i++) {
            char c = at(text, i);
            if (c < 'a' || c > 'f') {
                throw new Fault(1, i);
            }
            if (text.indexOf(c, slash + 1) < i) {
                throw new Fault(6, i);
            }
            if (c - 'a' >= slash) {
                throw new Fault(3, i);
            }
        }
        if (text.length() > 2 * slash + 1) {
            throw new Fault(1, 2 * slash + 1);
        }
        int[][] told = new int[2][slash];
        for (int i = 0; i < slash; i++) {
            told[0][i] = text.charAt(i) - 'a';
            told[1][i] = text.charAt(slash + 1 + i) - 'a';
        }
        return told;
    }

    // ---- words ----

    /** A word written out: its steps, and where each stands in the text. */
    static final class Written {
        final StringBuilder steps = new StringBuilder();
        final List<Integer> places = new ArrayList<>();
    }

    private static Written readWord(String text, int sort) {
        Written word = new Written();
        int end = readSteps(text, 0, 0, word);
        if (end < text.length()) {
            throw new Fault(1, end);
        }
        boolean man = sort == 0;
        for (int i = 0; i < word.steps.length(); i++) {
            char step = word.steps.charAt(i);
            if (step == 'h' && man || step == 'w' && !man) {
                throw new Fault(7, word.places.get(i));
            }
            man = leadsToMan(step);
        }
        return word;
    }

    private static int readSteps(String text, int from, int open, Written word) {
        int place = from;
        do {
            int start = place;
            int times = 1;
            if (at(text, place) >= '2' && at(text, place) <= '9') {
                times = at(text, place++) - '0';
            }
            int before = word.steps.length();
            if (at(text, place) == '(') {
                if (open == 2) {
                    throw new Fault(5, place);
                }
                place = readSteps(text, place + 1, open + 1, word);
                if (at(text, place) != ')') {
                    throw new Fault(1, place);
                }
            } else if (ORDER.indexOf(at(text, place)) >= 0) {
                word.steps.append(at(text, place));
                word.places.add(place);
            } else {
                throw new Fault(1, place);
            }
            place++;
            String once = word.steps.substring(before);
            List<Integer> placesOnce = new ArrayList<>(word.places.subList(before, word.places.size()));
            for (int i = 1; i < times; i++) {
                word.steps.append(once);
                word.places.addAll(placesOnce);
            }
            if (word.steps.length() > 24) {
                throw new Fault(6, start);
            }
        } while (place < text.length() && at(text, place) != ')' || open == 0 && place < text.length());
        return place;
    }

    private static boolean leadsToMan(char step) {
        return "fhsb".indexOf(step) >= 0;
    }

    private static int where(int[] row, int value) {
        for (int i = 0; i < row.length; i++) {
            if (row[i] == value) {
                return i;
            }
        }
        throw new IllegalStateException();
    }

    private static int stepOnNames(int[] wife, int[] child, char step, boolean man, int name) {
        switch (step) {
            case 'b':
            case 'z': return name;
            case 'm': return where(child, name);
            case 'f': return where(wife, where(child, name));
            case 's':
            case 'd': return child[man ? wife[name] : name];
            case 'h': return where(wife, name);
            case 'w': return wife[name];
            default: throw new IllegalStateException();
        }
    }

    private static int lead(int[] wife, int[] child, String steps, int sort, int name) {
        boolean man = sort == 0;
        int at = name;
        for (char step : steps.toCharArray()) {
            at = stepOnNames(wife, child, step, man, at);
            man = leadsToMan(step);
        }
        return at;
    }

    private static int sortAtEnd(String steps) {
        return leadsToMan(steps.charAt(steps.length() - 1)) ? 0 : 1;
    }

    private static boolean lawful(int[] wife, int[] child, String steps, int sort, int name) {
        int to = lead(wife, child, steps, sort, name);
        if (sortAtEnd(steps) == sort) {
            return false;
        }
        return sort == 0 ? wife[name] == to : wife[to] == name;
    }

    int kin(int n, int sort, int what) {
        boolean known = what >= 0 && what < names || what >= 100 && what <= 104;
        if (!known || sort < 0 || sort > 1 || names == 0 || lacks(n, 40)) {
            return -1;
        }
        String steps;
        try {
            steps = readWord(take(n), sort).steps.toString();
        } catch (Fault fault) {
            return fault.code;
        }
        int itself = 0;
        int bits = 0;
        for (int i = 0; i < names; i++) {
            itself += lead(wife, child, steps, sort, i) == i ? 1 : 0;
            bits |= lawful(wife, child, steps, sort, i) ? 1 << i : 0;
        }
        switch (what) {
            case 100: return sortAtEnd(steps);
            case 101: return itself;
            case 102: return howOften(steps, sort);
            case 103: return bits;
            case 104: return steps.length();
            default: return lead(wife, child, steps, sort, what);
        }
    }

    private int howOften(String steps, int sort) {
        int[] now = new int[names];
        for (int i = 0; i < names; i++) {
            now[i] = i;
        }
        for (int times = 1;; times++) {
            boolean all = true;
            for (int i = 0; i < names; i++) {
                now[i] = lead(wife, child, steps, sort, now[i]);
                all &= now[i] == i;
            }
            if (all) {
                return times;
            }
        }
    }

    int alike(int n, int m, int sort) {
        boolean known = n >= 1 && n <= 40 && m >= 1 && m <= 40 && sort >= 0 && sort <= 1;
        if (!known || names == 0 || n + m > tape.size()) {
            return -1;
        }
        String both = take(n + m);
        String one;
        String other;
        try {
            one = readWord(both.substring(0, n), sort).steps.toString();
        } catch (Fault fault) {
            return fault.code;
        }
        try {
            other = readWord(both.substring(n), sort).steps.toString();
        } catch (Fault fault) {
            return fault.code - 100000;
        }
        if (sortAtEnd(one) != sortAtEnd(other)) {
            return -4;
        }
        int bits = 0;
        for (int i = 0; i < names; i++) {
            if (lead(wife, child, one, sort, i) == lead(wife, child, other, sort, i)) {
                bits |= 1 << i;
            }
        }
        return bits;
    }

    // ---- ways ----

    private static Set<List<Integer>> allWays(int[] wife, int[] child) {
        List<Integer> none = new ArrayList<>();
        for (int i = 0; i < wife.length; i++) {
            none.add(i);
        }
        Set<List<Integer>> all = new LinkedHashSet<>();
        ArrayDeque<List<Integer>> due = new ArrayDeque<>();
        all.add(none);
        due.add(none);
        while (!due.isEmpty()) {
            List<Integer> way = due.remove();
            for (int[] change : new int[][] {wife, child}) {
                List<Integer> next = new ArrayList<>();
                for (int name : way) {
                    next.add(change[name]);
                }
                if (all.add(next)) {
                    due.add(next);
                }
            }
        }
        return all;
    }

    private static int sides(Set<List<Integer>> all, int names) {
        Set<Set<Integer>> sides = new HashSet<>();
        for (int i = 0; i < names; i++) {
            Set<Integer> side = new TreeSet<>();
            for (List<Integer> way : all) {
                side.add(way.get(i));
            }
            sides.add(side);
        }
        return sides.size();
    }

    private static boolean even(Set<List<Integer>> all, int names) {
        for (int from = 0; from < names; from++) {
            for (int to = 0; to < names; to++) {
                int many = 0;
                for (List<Integer> way : all) {
                    many += way.get(from) == to ? 1 : 0;
                }
                if (many > 1) {
                    return false;
                }
            }
        }
        return true;
    }

    int ways(int what) {
        if (names == 0 || what < 0 || what > 2) {
            return -1;
        }
        Set<List<Integer>> all = allWays(wife, child);
        return what == 0 ? all.size() : what == 1 ? sides(all, names) : even(all, names) ? 1 : 0;
    }

    // ---- shortest words ----

    private boolean isNode(int name, int sort) {
        return name >= 0 && name < names && (sort == 0 || sort == 1);
    }

    private static boolean can(char step, boolean man) {
        return step == 'h' ? !man : step != 'w' || man;
    }

    private static int tell(String word, int what) {
        if (word == null) {
            return -2;
        }
        return what == 100 ? word.length() : what < word.length() ? word.charAt(what) : -4;
    }

    int term(int name, int sort, int toName, int toSort, int what) {
        if (!isNode(name, sort) || !isNode(toName, toSort) || what != 100 && (what < 0 || what > 11)) {
            return -1;
        }
        Map<Integer, String> least = new HashMap<>();
        Map<String, Integer> level = new TreeMap<>(Model::byOrder);
        level.put("", 2 * name + sort);
        least.put(2 * name + sort, "");
        while (!level.isEmpty()) {
            Map<String, Integer> next = new TreeMap<>(Model::byOrder);
            for (Map.Entry<String, Integer> e : level.entrySet()) {
                boolean man = e.getValue() % 2 == 0;
                for (char step : ORDER.toCharArray()) {
                    if (can(step, man)) {
                        int to = 2 * stepOnNames(wife, child, step, man, e.getValue() / 2) + (leadsToMan(step) ? 0 : 1);
                        next.put(e.getKey() + step, to);
                    }
                }
            }
            level = new TreeMap<>(Model::byOrder);
            for (Map.Entry<String, Integer> e : next.entrySet()) {
                if (!least.containsKey(e.getValue())) {
                    least.put(e.getValue(), e.getKey());
                    level.put(e.getKey(), e.getValue());
                }
            }
        }
        return tell(least.get(2 * toName + toSort), what);
    }

    private static int byOrder(String a, String b) {
        for (int i = 0; i < Math.min(a.length(), b.length()); i++) {
            int less = ORDER.indexOf(a.charAt(i)) - ORDER.indexOf(b.charAt(i));
            if (less != 0) {
                return less;
            }
        }
        return a.length() - b.length();
    }

    int cousin(int what) {
        if (names == 0 || what < 0 || what > 100) {
            return -1;
        }
        List<String> words = new ArrayList<>(List.of(""));
        for (int length = 1; length <= 4; length++) {
            List<String> longer = new ArrayList<>();
            for (String word : words) {
                for (char step : "fmsdbz".toCharArray()) {
                    longer.add(word + step);
                }
            }
            words = longer;
            for (String word : words) {
                boolean all = true;
                for (int i = 0; i < names; i++) {
                    all &= lawful(wife, child, word, 0, i);
                }
                if (all) {
                    return tell(word, what);
                }
            }
        }
        return -2;
    }

    long words(int k, int name, int sort, int toName, int toSort) {
        if (k < 1 || k > 20 || !isNode(name, sort) || !isNode(toName, toSort)) {
            return -1;
        }
        BigInteger[] many = new BigInteger[2 * names];
        Arrays.fill(many, BigInteger.ZERO);
        many[2 * toName + toSort] = BigInteger.ONE;
        for (int i = 0; i < k; i++) {
            BigInteger[] ahead = new BigInteger[2 * names];
            for (int node = 0; node < 2 * names; node++) {
                ahead[node] = BigInteger.ZERO;
                for (char step : ORDER.toCharArray()) {
                    boolean man = node % 2 == 0;
                    if (can(step, man)) {
                        int to = 2 * stepOnNames(wife, child, step, man, node / 2) + (leadsToMan(step) ? 0 : 1);
                        ahead[node] = ahead[node].add(many[to]);
                    }
                }
            }
            many = ahead;
        }
        return many[2 * name + sort].longValueExact();
    }

    private static void allRows(List<Integer> row, int names, List<int[]> into) {
        if (row.size() == names) {
            int[] all = new int[names];
            for (int i = 0; i < names; i++) {
                all[i] = row.get(i);
            }
            into.add(all);
            return;
        }
        for (int i = 0; i < names; i++) {
            if (!row.contains(i)) {
                row.add(i);
                allRows(row, names, into);
                row.remove(row.size() - 1);
            }
        }
    }

    int allRules(int many, int n, int what) {
        if (many < 2 || many > 5 || what < 0 || what > 1 || lacks(n, 40)) {
            return -1;
        }
        String steps;
        try {
            steps = readWord(take(n), 0).steps.toString();
        } catch (Fault fault) {
            return fault.code;
        }
        List<int[]> rows = new ArrayList<>();
        allRows(new ArrayList<>(), many, rows);
        int found = 0;
        for (int[] w : rows) {
            boolean own = false;
            for (int i = 0; i < many; i++) {
                own |= w[i] == i;
            }
            if (own) {
                continue;
            }
            for (int[] c : rows) {
                boolean all = true;
                for (int i = 0; i < many && all; i++) {
                    all = lawful(w, c, steps, 0, i);
                }
                if (all && what == 1) {
                    Set<List<Integer>> ways = allWays(w, c);
                    all = sides(ways, many) == 1 && even(ways, many);
                }
                found += all ? 1 : 0;
            }
        }
        return found;
    }

    // ---- the roll ----

    int roll(int n) {
        if (names == 0 || lacks(n, 240)) {
            return -1;
        }
        try {
            people = readRoll(take(n));
        } catch (Fault fault) {
            return fault.code;
        }
        return people.size();
    }

    private List<Person> readRoll(String text) {
        List<Person> all = new ArrayList<>();
        int place = 0;
        while (true) {
            char c = at(text, place);
            if (c != 'M' && c != 'F') {
                throw new Fault(1, place);
            }
            if (all.size() == 24) {
                throw new Fault(4, place);
            }
            place++;
            Person p = new Person();
            p.man = c == 'M';
            c = at(text, place);
            if (c >= 'a' && c <= 'f') {
                if (c - 'a' >= names) {
                    throw new Fault(6, place);
                }
                p.told = c - 'a';
                place++;
            }
            if (at(text, place) == '<') {
                place++;
                if (at(text, place) == '-') {
                    place++;
                } else {
                    int end = numberEnd(text, place, all.size());
                    p.father = Integer.parseInt(text.substring(place, end));
                    if (!all.get(p.father).man) {
                        throw new Fault(7, place);
                    }
                    place = end;
                }
                if (at(text, place) != ',') {
                    throw new Fault(1, place);
                }
                place++;
                if (at(text, place) == '-') {
                    place++;
                } else {
                    int end = numberEnd(text, place, all.size());
                    p.mother = Integer.parseInt(text.substring(place, end));
                    if (all.get(p.mother).man) {
                        throw new Fault(7, place);
                    }
                    place = end;
                }
            }
            if (at(text, place) == '&') {
                place++;
                int end = numberEnd(text, place, all.size());
                p.wed = Integer.parseInt(text.substring(place, end));
                Person other = all.get(p.wed);
                if (other.man == p.man || other.wed >= 0) {
                    throw new Fault(8, place);
                }
                other.wed = all.size();
                place = end;
            }
            all.add(p);
            if (place == text.length()) {
                return all;
            }
            if (at(text, place) != ';') {
                throw new Fault(1, place);
            }
            place++;
        }
    }

    private static int numberEnd(String text, int from, int before) {
        int end = from;
        while (at(text, end) >= '0' && at(text, end) <= '9') {
            if (end == from + 2) {
                throw new Fault(2, end);
            }
            end++;
        }
        if (end == from) {
            throw new Fault(1, from);
        }
        if (Integer.parseInt(text.substring(from, end)) >= before) {
            throw new Fault(3, from);
        }
        return end;
    }

    private boolean isPerson(int p) {
        return p >= 0 && p < people.size();
    }

    private boolean related(char step, int p, int q) {
        Person one = people.get(p);
        Person other = people.get(q);
        boolean sibling = p != q && (one.father >= 0 && one.father == other.father
                || one.mother >= 0 && one.mother == other.mother);
        switch (step) {
            case 'f': return one.father == q;
            case 'm': return one.mother == q;
            case 'h': return one.wed == q && other.man;
            case 'w': return one.wed == q && !other.man;
            case 's': return (other.father == p || other.mother == p) && other.man;
            case 'd': return (other.father == p || other.mother == p) && !other.man;
            case 'b': return sibling && other.man;
            case 'z': return sibling && !other.man;
            default: throw new IllegalStateException();
        }
    }

    private int relatedBits(String steps, int p) {
        int bits = 0;
        for (int q = 0; q < people.size(); q++) {
            for (char step : steps.toCharArray()) {
                if (related(step, p, q)) {
                    bits |= 1 << q;
                }
            }
        }
        return bits;
    }

    /** The people of p's house, each but p hanging together with one ahead of it. */
    private List<Integer> house(int p) {
        List<Integer> all = new ArrayList<>(List.of(p));
        for (int i = 0; i < all.size(); i++) {
            for (int q = 0; q < people.size(); q++) {
                if (!all.contains(q) && (relatedBits("fmhwsd", all.get(i)) >> q & 1) == 1) {
                    all.add(q);
                }
            }
        }
        return all;
    }

    private boolean nameIsRight(int p, int[] named) {
        for (int q = 0; q < people.size(); q++) {
            if (named[q] < 0) {
                continue;
            }
            if (related('w', p, q) && named[q] != wife[named[p]]) {
                return false;
            }
            if (related('h', p, q) && named[p] != wife[named[q]]) {
                return false;
            }
            if (related('m', p, q) && named[p] != child[named[q]]) {
                return false;
            }
            if (related('f', p, q) && named[p] != child[wife[named[q]]]) {
                return false;
            }
            if (people.get(q).mother == p && named[q] != child[named[p]]) {
                return false;
            }
            if (people.get(q).father == p && named[q] != child[wife[named[p]]]) {
                return false;
            }
        }
        return true;
    }

    /** All ways to name a house rightly, whatever names are told. */
    private void nameRest(List<Integer> house, int done, int[] named, List<int[]> into) {
        if (done == house.size()) {
            into.add(named.clone());
            return;
        }
        int p = house.get(done);
        for (int name = 0; name < names; name++) {
            named[p] = name;
            if (nameIsRight(p, named)) {
                nameRest(house, done + 1, named, into);
            }
        }
        named[p] = -1;
    }

    private List<int[]> namings(List<Integer> house) {
        int[] named = new int[people.size()];
        Arrays.fill(named, -1);
        List<int[]> all = new ArrayList<>();
        nameRest(house, 0, named, all);
        return all;
    }

    private int mayBe(int p) {
        List<Integer> house = house(p);
        int bits = 0;
        for (int[] named : namings(house)) {
            boolean right = true;
            for (int q : house) {
                right &= people.get(q).told < 0 || people.get(q).told == named[q];
            }
            if (right) {
                bits |= 1 << named[p];
            }
        }
        return bits;
    }

    int personIs(int p, int what) {
        if (!isPerson(p) || what < 0 || what > 8) {
            return -1;
        }
        Person one = people.get(p);
        int may = mayBe(p);
        switch (what) {
            case 0: return one.man ? 0 : 1;
            case 1: return one.told < 0 ? -2 : one.told;
            case 2: return one.father < 0 ? -2 : one.father;
            case 3: return one.mother < 0 ? -2 : one.mother;
            case 4: return one.wed < 0 ? -2 : one.wed;
            case 5: return relatedBits("sd", p);
            case 6: return relatedBits("bz", p);
            case 7: return may;
            default: return may == 0 ? -3 : Integer.bitCount(may) > 1 ? -2 : Integer.numberOfTrailingZeros(may);
        }
    }

    private Set<Integer> lowest() {
        Set<Integer> all = new TreeSet<>();
        for (int p = 0; p < people.size(); p++) {
            all.add(Collections.min(house(p)));
        }
        return all;
    }

    int houses(int what) {
        int wrong = 0;
        int bits = 0;
        for (int first : lowest()) {
            if (mayBe(first) == 0) {
                wrong++;
                for (int q : house(first)) {
                    bits |= 1 << q;
                }
            }
        }
        return what == 0 ? lowest().size() : what == 1 ? wrong : what == 2 ? bits : -1;
    }

    int mended(int what) {
        if (what != 0 && what != 1) {
            return -1;
        }
        int bits = 0;
        for (int first : lowest()) {
            List<Integer> house = house(first);
            int best = -1;
            int bestName = 9;
            for (int[] named : namings(house)) {
                int off = 0;
                for (int q : house) {
                    if (people.get(q).told >= 0 && people.get(q).told != named[q]) {
                        off |= 1 << q;
                    }
                }
                int less = best < 0 ? -1 : Integer.bitCount(off) - Integer.bitCount(best);
                if (less < 0 || less == 0 && named[first] < bestName) {
                    best = off;
                    bestName = named[first];
                }
            }
            if (best < 0) {
                return -2;
            }
            bits |= best;
        }
        return what == 0 ? Integer.bitCount(bits) : bits;
    }

    int byTold(int what) {
        if (what < 0 || what > 3) {
            return -1;
        }
        List<Integer> unlawful = new ArrayList<>();
        List<Integer> unlike = new ArrayList<>();
        for (int p = 0; p < people.size(); p++) {
            Person one = people.get(p);
            if (one.wed > p && one.told >= 0 && people.get(one.wed).told >= 0) {
                Person husband = one.man ? one : people.get(one.wed);
                Person bride = one.man ? people.get(one.wed) : one;
                if (wife[husband.told] != bride.told) {
                    unlawful.add(p);
                }
            }
            if (one.mother >= 0 && one.told >= 0 && people.get(one.mother).told >= 0
                    && child[people.get(one.mother).told] != one.told) {
                unlike.add(p);
            }
        }
        List<Integer> asked = what < 2 ? unlawful : unlike;
        return what % 2 == 0 ? asked.size() : asked.isEmpty() ? -2 : asked.get(0);
    }

    private int leadAll(char step, int those) {
        int next = 0;
        for (int p = 0; p < people.size(); p++) {
            if ((those >> p & 1) == 1) {
                next |= relatedBits(String.valueOf(step), p);
            }
        }
        return next;
    }

    /** Looks at whole words, by length and order, each with all to whom it leads. */
    int whatIs(int p, int q, int what) {
        if (!isPerson(p) || !isPerson(q) || what != 100 && (what < 0 || what > 23)) {
            return -1;
        }
        Map<Integer, String> seen = new LinkedHashMap<>();
        ArrayDeque<Integer> due = new ArrayDeque<>();
        seen.put(1 << p, "");
        due.add(1 << p);
        while (!due.isEmpty()) {
            int those = due.remove();
            if ((those >> q & 1) == 1) {
                return tell(seen.get(those), what);
            }
            for (char step : ORDER.toCharArray()) {
                int next = leadAll(step, those);
                if (next != 0 && !seen.containsKey(next)) {
                    seen.put(next, seen.get(those) + step);
                    due.add(next);
                }
            }
        }
        return -2;
    }

    int those(int p, int n) {
        if (!isPerson(p) || lacks(n, 40)) {
            return -1;
        }
        try {
            int those = 1 << p;
            for (char step : readWord(take(n), people.get(p).man ? 0 : 1).steps.toString().toCharArray()) {
                those = leadAll(step, those);
            }
            return those;
        } catch (Fault fault) {
            return fault.code;
        }
    }

    private boolean mayWed(int p, int q) {
        Person one = people.get(p);
        Person other = people.get(q);
        if (one.man == other.man || one.wed >= 0 || other.wed >= 0 || (relatedBits("fmsdbz", p) >> q & 1) == 1) {
            return false;
        }
        int man = mayBe(one.man ? p : q);
        int woman = mayBe(one.man ? q : p);
        for (int name = 0; name < names; name++) {
            if ((man >> name & 1) == 1 && (woman >> wife[name] & 1) == 1) {
                return true;
            }
        }
        return false;
    }

    int mayWed(int p) {
        if (!isPerson(p)) {
            return -1;
        }
        int bits = 0;
        for (int q = 0; q < people.size(); q++) {
            bits |= mayWed(p, q) ? 1 << q : 0;
        }
        return bits;
    }

    int weddings() {
        int men = 0;
        for (Person p : people) {
            men += p.man ? 1 : 0;
        }
        boolean fewMen = 2 * men <= people.size();
        List<Integer> may = new ArrayList<>();
        for (int p = 0; p < people.size(); p++) {
            if (people.get(p).man != fewMen) {
                may.add(mayWed(p));
            }
        }
        return mostFrom(may, 0, 0, new HashMap<>());
    }

    /** One after another of the greater side, each left or wed to one of the lesser that is not yet taken. */
    private static int mostFrom(List<Integer> may, int i, int taken, Map<List<Integer>, Integer> known) {
        if (i == may.size()) {
            return 0;
        }
        Integer before = known.get(List.of(i, taken));
        if (before != null) {
            return before;
        }
        int best = mostFrom(may, i + 1, taken, known);
        for (int q = 0; q < 24; q++) {
            if ((may.get(i) & ~taken & 1 << q) != 0) {
                best = Math.max(best, 1 + mostFrom(may, i + 1, taken | 1 << q, known));
            }
        }
        known.put(List.of(i, taken), best);
        return best;
    }

    private Set<Integer> from(int p) {
        Set<Integer> all = new TreeSet<>();
        for (int q = 0; q < people.size(); q++) {
            if (people.get(q).father == p || people.get(q).mother == p) {
                all.add(q);
                all.addAll(from(q));
            }
        }
        return all;
    }

    private int generation(int p) {
        int most = 0;
        for (int parent : new int[] {people.get(p).father, people.get(p).mother}) {
            if (parent >= 0) {
                most = Math.max(most, 1 + generation(parent));
            }
        }
        return most;
    }

    int line(int p, int what) {
        if (!isPerson(p) || what < 0 || what > 2) {
            return -1;
        }
        if (what == 0) {
            return from(p).size();
        }
        if (what == 2) {
            return generation(p);
        }
        int ahead = 0;
        for (int q = 0; q < p; q++) {
            ahead += from(q).contains(p) ? 1 : 0;
        }
        return ahead;
    }

    // ---- the law ----

    int law(int n) {
        if (lacks(n, 240)) {
            return -1;
        }
        try {
            law = new LawText(take(n)).clauses();
        } catch (Fault fault) {
            return fault.code;
        }
        return law.size();
    }

    private static final class LawText {
        private final String text;
        private int place;

        LawText(String text) {
            this.text = text;
        }

        private char now() {
            return at(text, place);
        }

        private void must(char sign) {
            if (now() != sign) {
                throw new Fault(1, place);
            }
            place++;
        }

        List<Clause> clauses() {
            List<Clause> all = new ArrayList<>();
            while (true) {
                Clause clause = new Clause();
                clause.kind = now();
                if ("wbdx".indexOf(clause.kind) < 0) {
                    throw new Fault(1, place);
                }
                if (all.size() == 16) {
                    throw new Fault(4, place);
                }
                place++;
                if (clause.kind != 'x') {
                    clause.worth = sum(0);
                }
                must('(');
                clause.condition = choice(1);
                must(')');
                all.add(clause);
                if (place == text.length()) {
                    return all;
                }
                must(';');
            }
        }

        private void mayOpen(int open) {
            if (open == 6) {
                throw new Fault(5, place);
            }
        }

        private Expression choice(int open) {
            List<Expression> parts = new ArrayList<>();
            do {
                if (!parts.isEmpty()) {
                    place++;
                }
                parts.add(part(open));
            } while (now() == '|');
            return l -> {
                for (Expression part : parts) {
                    if (part.of(l) == 1) {
                        return 1;
                    }
                }
                return 0;
            };
        }

        private Expression part(int open) {
            List<Expression> tests = new ArrayList<>();
            do {
                if (!tests.isEmpty()) {
                    place++;
                }
                tests.add(test(open));
            } while (now() == '&');
            return l -> {
                for (Expression test : tests) {
                    if (test.of(l) == 0) {
                        return 0;
                    }
                }
                return 1;
            };
        }

        private Expression test(int open) {
            if (now() == '!') {
                mayOpen(open);
                place++;
                Expression test = test(open + 1);
                return l -> test.of(l) == 1 ? 0 : 1;
            }
            if (now() == '(') {
                mayOpen(open);
                place++;
                Expression choice = choice(open + 1);
                must(')');
                return choice;
            }
            Expression left = sum(open);
            char sign = now();
            if (sign != '<' && sign != '>' && sign != '=') {
                throw new Fault(1, place);
            }
            place++;
            Expression right = sum(open);
            return l -> {
                int a = left.of(l);
                int b = right.of(l);
                return (sign == '<' ? a < b : sign == '>' ? a > b : a == b) ? 1 : 0;
            };
        }

        private Expression sum(int open) {
            Expression all = term(open);
            while (now() == '+' || now() == '-') {
                char sign = now();
                place++;
                all = joined(all, sign, term(open));
            }
            return all;
        }

        private Expression term(int open) {
            Expression all = factor(open);
            while (now() == '*' || now() == '/' || now() == '%') {
                char sign = now();
                place++;
                all = joined(all, sign, factor(open));
            }
            return all;
        }

        private static Expression joined(Expression left, char sign, Expression right) {
            return l -> {
                int a = left.of(l);
                int b = right.of(l);
                switch (sign) {
                    case '+': return a + b;
                    case '-': return a - b;
                    case '*': return a * b;
                    default:
                        if (b == 0) {
                            throw new Refused();
                        }
                        return sign == '/' ? a / b : a % b;
                }
            };
        }

        private Expression factor(int open) {
            if (now() == '[') {
                mayOpen(open);
                place++;
                Expression all = sum(open + 1);
                must(']');
                return all;
            }
            if (now() >= '0' && now() <= '9') {
                int start = place;
                while (now() >= '0' && now() <= '9') {
                    if (place == start + 5) {
                        throw new Fault(2, place);
                    }
                    place++;
                }
                int number = Integer.parseInt(text.substring(start, place));
                return l -> number;
            }
            char letter = now();
            if ("nmvkaptq".indexOf(letter) < 0) {
                throw new Fault(1, place);
            }
            place++;
            return l -> l.get(letter);
        }
    }

    private int worth(char kind, Map<Character, Integer> letters, int none, int most) {
        for (Clause clause : law) {
            boolean holds;
            try {
                holds = clause.kind == kind && clause.condition.of(letters) == 1;
            } catch (Refused refused) {
                holds = false;
            }
            if (holds) {
                try {
                    return kind == 'x' ? 1 : Math.min(most, Math.max(0, clause.worth.of(letters)));
                } catch (Refused refused) {
                    return 0;
                }
            }
        }
        return none;
    }

    // ---- the village ----

    private int allOf(Settlement s, int name) {
        return s.men[name] + s.women[name] + s.couples[name] + s.couples[where(wife, name)];
    }

    private int all(Settlement s) {
        int all = 0;
        for (int i = 0; i < names; i++) {
            all += allOf(s, i);
        }
        return all;
    }

    private Map<Character, Integer> drawn(Settlement s, int name) {
        s.x = (int) ((25173L * s.x + 13849L) % 65536L);
        Map<Character, Integer> letters = new HashMap<>();
        letters.put('n', name);
        letters.put('m', s.men[name]);
        letters.put('v', s.women[wife[name]]);
        letters.put('k', s.couples[name]);
        letters.put('a', allOf(s, name));
        letters.put('p', all(s));
        letters.put('t', s.year % 100);
        letters.put('q', s.x % 10);
        return letters;
    }

    private void goBy(Settlement s, int n) {
        for (int i = 0; i < n && s.year < 9999; i++) {
            for (int name = 0; name < names; name++) {
                Map<Character, Integer> letters = drawn(s, name);
                int more = Math.min(s.men[name], s.women[wife[name]]) * worth('w', letters, 50, 100) / 100;
                more = Math.min(more, 9999 - s.couples[name]);
                if (worth('x', letters, 0, 1) == 1) {
                    more = 0;
                }
                s.couples[name] += more;
                s.men[name] -= more;
                s.women[wife[name]] -= more;
                s.weddings += more;
            }
            for (int name = 0; name < names; name++) {
                Map<Character, Integer> letters = drawn(s, name);
                int born = s.couples[name] * worth('b', letters, 40, 300) / 100;
                int boys = born / 2;
                int girls = born / 2;
                if (born % 2 == 1) {
                    if (letters.get('q') % 2 == 0) {
                        boys++;
                    } else {
                        girls++;
                    }
                }
                int theirs = child[wife[name]];
                s.men[theirs] = Math.min(9999, s.men[theirs] + boys);
                s.women[theirs] = Math.min(9999, s.women[theirs] + girls);
                s.births += born;
            }
            for (int name = 0; name < names; name++) {
                int share = worth('d', drawn(s, name), 2, 100);
                int men = s.men[name] * share / 100;
                int women = s.women[name] * share / 100;
                int couples = s.couples[name] * share / 100;
                s.men[name] -= men;
                s.women[name] -= women;
                s.couples[name] -= couples;
                s.deaths += men + women + couples + couples;
            }
            s.year++;
        }
    }

    boolean people(int name, int men, int women, int couples) {
        if (name < 0 || name >= names || Math.min(men, Math.min(women, couples)) < 0
                || Math.max(men, Math.max(women, couples)) > 9999) {
            return false;
        }
        village.men[name] = men;
        village.women[name] = women;
        village.couples[name] = couples;
        return true;
    }

    int years(int n) {
        if (n < 1 || n > 100) {
            return -1;
        }
        village.weddings = 0;
        goBy(village, n);
        return village.weddings;
    }

    int tried(int n, int what) {
        boolean known = what >= 0 && what <= 3 || what >= 10 && what <= 39 && what % 10 < names;
        if (n < 1 || n > 100 || !known) {
            return -1;
        }
        Settlement s = village.copy();
        goBy(s, n);
        switch (what) {
            case 0: return s.weddings;
            case 1: return s.births;
            case 2: return s.deaths;
            case 3: return all(s);
            default: return (what < 20 ? s.men : what < 30 ? s.women : s.couples)[what % 10];
        }
    }

    int nameIs(int name, int what) {
        if (name < 0 || name >= names || what < 0 || what > 5) {
            return -1;
        }
        return new int[] {village.men[name], village.women[name], village.couples[name], allOf(village, name),
                wife[name], child[name]}[what];
    }

    int diesOut(int name, int n) {
        if (name < 0 || name >= names || n < 1 || n > 100) {
            return -1;
        }
        Settlement s = village.copy();
        for (int years = 0; years <= n; years++) {
            if (allOf(s, name) == 0) {
                return years;
            }
            goBy(s, 1);
        }
        return -2;
    }

    int left(int what) {
        if (names == 0 || what < 0 || what > 1) {
            return -100000;
        }
        int best = 0;
        for (int name = names - 1; name >= 0; name--) {
            if (village.men[name] - village.women[wife[name]] >= village.men[best] - village.women[wife[best]]) {
                best = name;
            }
        }
        // The last name is looked at first and the lowest last, so of like ones the lowest stays.
        return what == 0 ? best : village.men[best] - village.women[wife[best]];
    }

    boolean seed(int x) {
        if (x < 0 || x > 65535) {
            return false;
        }
        village.x = x;
        return true;
    }

    int keep() {
        keptVillage = village.copy();
        keptNames = names;
        return village.year;
    }

    boolean undo() {
        if (keptVillage == null) {
            return false;
        }
        village = keptVillage.copy();
        for (int name = Math.min(names, keptNames); name < 6; name++) {
            village.men[name] = 0;
            village.women[name] = 0;
            village.couples[name] = 0;
        }
        return true;
    }

    int check(int n) {
        if (n < 0 || n > 6 || n > tape.size()) {
            return -2;
        }
        String bytes = take(n);
        for (int name = 0; name < n; name++) {
            if (bytes.charAt(name) != (name < names ? allOf(village, name) % 256 : 0)) {
                return name;
            }
        }
        return -1;
    }

    int count(int what) {
        int men = 0;
        int wed = 0;
        for (int p = 0; p < people.size(); p++) {
            men |= people.get(p).man ? 1 << p : 0;
            wed |= people.get(p).wed >= 0 ? 1 << p : 0;
        }
        switch (what) {
            case 0: return village.year;
            case 1: return names;
            case 2: return people.size();
            case 3: return men;
            case 4: return wed;
            case 5: return law.size();
            case 6: return tape.size();
            case 7: return village.x;
            case 8: return all(village);
            default: return -1;
        }
    }
}
