import java.util.Arrays;

/** A valley whose names tell whom one may marry. The document (DOC.md) says what each call answers. */
public final class NamedToWed {
    public static final int NONE = -1;

    private static final int MAN = 0;
    private static final int WOMAN = 1;

    // The order is that of the least row; the last bit of each is the sort that it leads to.
    private static final int FATHER = 0;
    private static final int MOTHER = 1;
    private static final int HUSBAND = 2;
    private static final int WIFE = 3;
    private static final int SON = 4;
    private static final int DAUGHTER = 5;
    private static final int BROTHER = 6;
    private static final int SISTER = 7;
    private static final int STEP_KINDS = 8;
    private static final char[] STEP_LETTERS = {'f', 'm', 'h', 'w', 's', 'd', 'b', 'z'};

    private static final int MOST_NAMES = 6;
    private static final int MOST_STEPS = 24;
    private static final int MOST_PEOPLE = 24;
    private static final int MOST_OF_EACH = 9999;
    private static final int MOST_YEARS_AT_ONCE = 100;
    private static final int LAST_YEAR = 9999;

    private static final int RULE_BYTES = 20;
    private static final int WORD_BYTES = 40;
    private static final int LONG_BYTES = 240;
    private static final int TAPE_BYTES = 260;

    private static final int HOW_MANY = 100;
    private static final int NOTHING = -2;
    private static final int NO_SUCH_STEP = -4;
    private static final int UNLIKE_SORTS = -4;
    private static final int SECOND_WORD = -100000;
    private static final int NO_LEFT = -100000;

    private final Tape tape = new Tape();
    private Rule rule = new Rule();
    private Rule spareRule = new Rule();
    private Roll roll = new Roll();
    private Roll spareRoll = new Roll();
    private Law law = new Law();
    private Law spareLaw = new Law();
    private final Word word = new Word();
    private final Word otherWord = new Word();
    private final Row row = new Row();
    private final Changes changes = new Changes();
    private final Houses houses = new Houses();
    private final Matches matches = new Matches();
    private final Village village = new Village();
    private final Village trial = new Village();
    private final Village kept = new Village();
    private int keptNames = 0;
    private boolean isKept = false;

    public NamedToWed() {
    }

    // ---- telling ----

    public boolean people(int name, int men, int women, int couples) {
        if (!isName(name) || !isNumberOf(men) || !isNumberOf(women) || !isNumberOf(couples)) {
            return false;
        }
        village.men[name] = men;
        village.women[name] = women;
        village.couples[name] = couples;
        return true;
    }

    public int feed(int a, int b, int c, int d, int e) {
        if (!tape.hasRoomFor(20)) {
            return NONE;
        }
        tape.add(a);
        tape.add(b);
        tape.add(c);
        tape.add(d);
        tape.add(e);
        return tape.held;
    }

    public int law(int n) {
        if (!tape.has(n, LONG_BYTES)) {
            return NONE;
        }
        tape.take(0, n);
        int fault = LawReader.read(tape, spareLaw);
        if (fault != 0) {
            return fault;
        }
        Law before = law;
        law = spareLaw;
        spareLaw = before;
        return law.clauses;
    }

    public int rule(int n) {
        if (!tape.has(n, RULE_BYTES)) {
            return NONE;
        }
        tape.take(0, n);
        int fault = spareRule.read(tape);
        if (fault != 0) {
            return fault;
        }
        Rule before = rule;
        rule = spareRule;
        spareRule = before;
        village.clear();
        roll.forgetNamesFrom(rule.names);
        houses.settle(rule, roll);
        return rule.names;
    }

    public int roll(int n) {
        if (rule.names == 0 || !tape.has(n, LONG_BYTES)) {
            return NONE;
        }
        tape.take(0, n);
        int fault = spareRoll.read(tape, rule.names);
        if (fault != 0) {
            return fault;
        }
        Roll before = roll;
        roll = spareRoll;
        spareRoll = before;
        houses.settle(rule, roll);
        return roll.size;
    }

    // ---- on names ----

    public int kin(int n, int sort, int what) {
        boolean known = isName(what) || (what >= 100 && what <= 104);
        if (rule.names == 0 || !known || !isSort(sort) || !tape.has(n, WORD_BYTES)) {
            return NONE;
        }
        tape.take(0, n);
        int fault = word.read(tape, sort);
        if (fault != 0) {
            return fault;
        }
        switch (what) {
            case 100: return word.sortAtEnd();
            case 101: return word.unchanged(rule, sort);
            case 102: return word.rounds(rule, sort);
            case 103: return word.lawfulFrom(rule, sort);
            case 104: return word.size;
            default: return word.lead(rule, what, sort);
        }
    }

    public int alike(int n, int m, int sort) {
        boolean known = isSort(sort) && m >= 1 && m <= WORD_BYTES && tape.has(n, WORD_BYTES);
        if (rule.names == 0 || !known || n + m > tape.held) {
            return NONE;
        }
        tape.take(0, n);
        int fault = word.read(tape, sort);
        if (fault != 0) {
            return fault;
        }
        tape.take(n, m);
        fault = otherWord.read(tape, sort);
        if (fault != 0) {
            return SECOND_WORD + fault;
        }
        if (word.sortAtEnd() != otherWord.sortAtEnd()) {
            return UNLIKE_SORTS;
        }
        int same = 0;
        for (int name = 0; name < rule.names; name++) {
            if (word.lead(rule, name, sort) == otherWord.lead(rule, name, sort)) {
                same |= 1 << name;
            }
        }
        return same;
    }

    public int ways(int what) {
        if (rule.names == 0 || what < 0 || what > 2) {
            return NONE;
        }
        if (what == 1) {
            return changes.sides(rule);
        }
        int size = changes.size(rule, Changes.MOST);
        if (what == 0) {
            return size;
        }
        // No side is greater than the ways: only if all are as great they make up all names.
        return changes.sides(rule) * size == rule.names ? 1 : 0;
    }

    public int term(int name, int sort, int toName, int toSort, int what) {
        boolean known = isName(name) && isSort(sort) && isName(toName) && isSort(toSort);
        if (!known || !isStep(what, 2 * MOST_NAMES)) {
            return NONE;
        }
        boolean found = row.findOnNames(rule, 2 * name + sort, 2 * toName + toSort);
        return found ? row.tell(what) : NOTHING;
    }

    public int cousin(int what) {
        if (rule.names == 0 || !isStep(what, 100)) {
            return NONE;
        }
        return row.findCousin(rule) ? row.tell(what) : NOTHING;
    }

    public long words(int k, int name, int sort, int toName, int toSort) {
        boolean known = isName(name) && isSort(sort) && isName(toName) && isSort(toSort);
        if (!known || k < 1 || k > 20) {
            return NONE;
        }
        return row.howMany(rule, k, 2 * name + sort, 2 * toName + toSort);
    }

    public int allRules(int names, int n, int what) {
        boolean known = names >= 2 && names <= 5 && (what == 0 || what == 1);
        if (!known || !tape.has(n, WORD_BYTES)) {
            return NONE;
        }
        tape.take(0, n);
        int fault = word.read(tape, MAN);
        if (fault != 0) {
            return fault;
        }
        return word.sortAtEnd() == WOMAN ? rulesForWord(names, what) : 0;
    }

    // The spare rule is free between two calls of rule(n), so all rules are tried in it.
    private int rulesForWord(int names, int what) {
        Rule tried = spareRule;
        tried.names = names;
        int all = Changes.FACTORIALS[names];
        int found = 0;
        for (int i = 0; i < all; i++) {
            Changes.unpack(i, tried.wife, names);
            if (tried.someWedsOwnName()) {
                continue;
            }
            for (int j = 0; j < all; j++) {
                Changes.unpack(j, tried.child, names);
                tried.turnRound();
                if (word.alwaysLawful(tried, MAN) && (what == 0 || isEvenAndOneSide(tried))) {
                    found++;
                }
            }
        }
        return found;
    }

    private boolean isEvenAndOneSide(Rule tried) {
        return changes.sides(tried) == 1 && changes.size(tried, tried.names + 1) == tried.names;
    }

    // ---- on people ----

    public int personIs(int p, int what) {
        if (!roll.has(p)) {
            return NONE;
        }
        switch (what) {
            case 0: return roll.sort[p];
            case 1: return orNothing(roll.told[p]);
            case 2: return orNothing(roll.father[p]);
            case 3: return orNothing(roll.mother[p]);
            case 4: return orNothing(roll.wed[p]);
            case 5: return roll.children[p];
            case 6: return roll.siblings[p];
            case 7: return houses.mayBe[p];
            case 8: return houses.sureName(p);
            default: return NONE;
        }
    }

    public int houses(int what) {
        switch (what) {
            case 0: return houses.howMany(roll.size, false);
            case 1: return houses.howMany(roll.size, true);
            case 2: return houses.wrongOnes(roll.size);
            default: return NONE;
        }
    }

    public int mended(int what) {
        if (what != 0 && what != 1) {
            return NONE;
        }
        if (!houses.canBeMended(roll.size)) {
            return NOTHING;
        }
        int gone = houses.goneNames(roll.size);
        return what == 0 ? Integer.bitCount(gone) : gone;
    }

    public int byTold(int what) {
        if (what < 0 || what > 3) {
            return NONE;
        }
        int wrong = what < 2 ? roll.wrongWeddings(rule) : roll.wrongChildren(rule);
        if (what == 0 || what == 2) {
            return Integer.bitCount(wrong);
        }
        return wrong == 0 ? NOTHING : lowestOf(wrong);
    }

    public int whatIs(int p, int q, int what) {
        if (!roll.has(p) || !roll.has(q) || !isStep(what, MOST_PEOPLE)) {
            return NONE;
        }
        return row.findOnPeople(roll, p, q) ? row.tell(what) : NOTHING;
    }

    public int those(int p, int n) {
        if (!roll.has(p) || !tape.has(n, WORD_BYTES)) {
            return NONE;
        }
        tape.take(0, n);
        int fault = word.read(tape, roll.sort[p]);
        return fault != 0 ? fault : word.leadOnRoll(roll, p);
    }

    public int mayWed(int p) {
        return roll.has(p) ? houses.suitable(rule, roll, p) : NONE;
    }

    public int weddings() {
        return matches.most(rule, roll, houses);
    }

    public int line(int p, int what) {
        if (!roll.has(p)) {
            return NONE;
        }
        switch (what) {
            case 0: return Integer.bitCount(roll.comeFrom(p));
            case 1: return Integer.bitCount(roll.aheadOf(p));
            case 2: return roll.generation(p);
            default: return NONE;
        }
    }

    // ---- the village ----

    public int years(int n) {
        if (!isYears(n)) {
            return NONE;
        }
        village.goBy(rule, law, n);
        return village.wed;
    }

    public int tried(int n, int what) {
        if (!isYears(n) || !isTriedWhat(what)) {
            return NONE;
        }
        trial.copy(village, MOST_NAMES);
        trial.goBy(rule, law, n);
        switch (what) {
            case 0: return trial.wed;
            case 1: return trial.born;
            case 2: return trial.died;
            case 3: return trial.all();
            default: return trial.some(what % 10, what / 10 - 1);
        }
    }

    private boolean isTriedWhat(int what) {
        return (what >= 0 && what <= 3) || (what >= 10 && what < 40 && isName(what % 10));
    }

    public int nameIs(int name, int what) {
        if (!isName(name)) {
            return NONE;
        }
        switch (what) {
            case 0:
            case 1:
            case 2: return village.some(name, what);
            case 3: return village.allOf(rule, name);
            case 4: return rule.wife[name];
            case 5: return rule.child[name];
            default: return NONE;
        }
    }

    public int diesOut(int name, int n) {
        if (!isName(name) || !isYears(n)) {
            return NONE;
        }
        trial.copy(village, MOST_NAMES);
        boolean gone = trial.allOf(rule, name) == 0;
        int behind = 0;
        for (; behind < n && !gone; behind++) {
            trial.goBy(rule, law, 1);
            gone = trial.allOf(rule, name) == 0;
        }
        return gone ? behind : NOTHING;
    }

    public int left(int what) {
        if (rule.names == 0 || (what != 0 && what != 1)) {
            return NO_LEFT;
        }
        int best = 0;
        for (int name = 1; name < rule.names; name++) {
            if (village.leftMen(rule, name) > village.leftMen(rule, best)) {
                best = name;
            }
        }
        return what == 0 ? best : village.leftMen(rule, best);
    }

    public boolean seed(int x) {
        if (x < 0 || x > 65535) {
            return false;
        }
        village.x = x;
        return true;
    }

    public int keep() {
        kept.copy(village, MOST_NAMES);
        keptNames = rule.names;
        isKept = true;
        return village.year;
    }

    public boolean undo() {
        if (!isKept) {
            return false;
        }
        village.copy(kept, Math.min(keptNames, rule.names));
        return true;
    }

    public int check(int n) {
        if (n < 0 || n > MOST_NAMES || n > tape.held) {
            return NOTHING;
        }
        tape.take(0, n);
        for (int name = 0; name < n; name++) {
            int all = isName(name) ? village.allOf(rule, name) : 0;
            if (tape.bytes[name] != (all & 255)) {
                return name;
            }
        }
        return NONE;
    }

    public int count(int what) {
        switch (what) {
            case 0: return village.year;
            case 1: return rule.names;
            case 2: return roll.size;
            case 3: return roll.men;
            case 4: return roll.wedOnes;
            case 5: return law.clauses;
            case 6: return tape.held;
            case 7: return village.x;
            case 8: return village.all();
            default: return NONE;
        }
    }

    // ---- what can be asked about ----

    private boolean isName(int name) {
        return name >= 0 && name < rule.names;
    }

    private static boolean isSort(int sort) {
        return sort == MAN || sort == WOMAN;
    }

    private static boolean isNumberOf(int many) {
        return many >= 0 && many <= MOST_OF_EACH;
    }

    private static boolean isYears(int n) {
        return n >= 1 && n <= MOST_YEARS_AT_ONCE;
    }

    private static boolean isStep(int what, int most) {
        return what == HOW_MANY || (what >= 0 && what < most);
    }

    private static int orNothing(int known) {
        return known < 0 ? NOTHING : known;
    }

    private static int fault(int number, int place) {
        return -1000 * number - place;
    }

    private static boolean isDigit(int c) {
        return c >= '0' && c <= '9';
    }

    /** 0 for a to 5 for f, else -1. */
    private static int nameOf(int c) {
        return c >= 'a' && c <= 'f' ? c - 'a' : -1;
    }

    /** The tape, and the text on it that is being read. */
    private static final class Tape {
        static final int END = -1;

        final int[] bytes = new int[TAPE_BYTES];
        int held = 0;
        int from = 0;
        int size = 0;
        int place = 0;

        boolean hasRoomFor(int more) {
            return held + more <= bytes.length;
        }

        void add(int four) {
            for (int shift = 24; shift >= 0 && hasRoomFor(1); shift -= 8) {
                bytes[held++] = (four >> shift) & 255;
            }
        }

        boolean has(int n, int most) {
            return n >= 1 && n <= most && n <= held;
        }

        /** What is on the tape stays to be read, but the tape is empty. */
        void take(int start, int length) {
            from = start;
            size = length;
            place = 0;
            held = 0;
        }

        int now() {
            int at = from + place;
            return place < size && at >= 0 && at < bytes.length ? bytes[at] : END;
        }

        int fault(int number) {
            return -1000 * number - place;
        }

        /** 0 if the text is at its end, else the fault. */
        int end() {
            return place < size ? fault(1) : 0;
        }

        /** 0 if the sign stands here (it is gone by), else the fault. */
        int sign(char due) {
            if (now() != due) {
                return fault(1);
            }
            place++;
            return 0;
        }
    }

    /** Of each name that of his wife, of her husband, of her child, of the mother. */
    private static final class Rule {
        int names = 0;
        final int[] wife = new int[MOST_NAMES];
        final int[] husband = new int[MOST_NAMES];
        final int[] child = new int[MOST_NAMES];
        final int[] mother = new int[MOST_NAMES];

        /** 0, or the fault. */
        int read(Tape text) {
            int fault = readWives(text);
            if (fault == 0) {
                fault = readChildren(text);
            }
            if (fault == 0) {
                turnRound();
            }
            return fault;
        }

        private int readWives(Tape text) {
            int seen = 0;
            int letters = 0;
            for (; text.place < text.size && text.now() != '/'; text.place++) {
                int name = nameOf(text.now());
                if (name < 0 || letters == MOST_NAMES) {
                    return text.fault(1);
                }
                if ((seen >> name & 1) != 0) {
                    return text.fault(6);
                }
                seen |= 1 << name;
                wife[letters++] = name;
            }
            if (text.now() != '/' || letters < 2) {
                return text.fault(1);
            }
            names = letters;
            for (int i = 0; i < names; i++) {
                if (wife[i] >= names) {
                    return fault(3, i);
                }
            }
            text.place++;
            return 0;
        }

        private int readChildren(Tape text) {
            int seen = 0;
            for (int i = 0; i < names; i++) {
                int name = nameOf(text.now());
                if (name < 0) {
                    return text.fault(1);
                }
                if ((seen >> name & 1) != 0) {
                    return text.fault(6);
                }
                if (name >= names) {
                    return text.fault(3);
                }
                seen |= 1 << name;
                child[i] = name;
                text.place++;
            }
            return text.end();
        }

        void turnRound() {
            for (int i = 0; i < names; i++) {
                husband[wife[i]] = i;
                mother[child[i]] = i;
            }
        }

        boolean someWedsOwnName() {
            for (int i = 0; i < names; i++) {
                if (wife[i] == i) {
                    return true;
                }
            }
            return false;
        }

        /** The name of whom a step leads to from one of a name and sort. */
        int go(int step, int sort, int name) {
            switch (step) {
                case FATHER: return husband[mother[name]];
                case MOTHER: return mother[name];
                case HUSBAND: return husband[name];
                case WIFE: return wife[name];
                case SON:
                case DAUGHTER: return sort == MAN ? child[wife[name]] : child[name];
                default: return name;
            }
        }

        int spouse(int sort, int name) {
            return sort == MAN ? wife[name] : husband[name];
        }
    }

    private static boolean canStep(int step, int sort) {
        return !(step == HUSBAND && sort == MAN) && !(step == WIFE && sort == WOMAN);
    }

    private static int sortBehind(int step) {
        return step & 1;
    }

    private static int stepOf(int c) {
        for (int step = 0; step < STEP_KINDS; step++) {
            if (STEP_LETTERS[step] == c) {
                return step;
            }
        }
        return -1;
    }

    /** A word for kin, its rounds written out. */
    private static final class Word {
        private static final int MOST_OPEN = 2;

        int size = 0;
        final int[] steps = new int[MOST_STEPS];
        private final int[] places = new int[MOST_STEPS];
        private int open = 0;
        private final int[] openedAt = new int[MOST_OPEN];
        private final int[] openedTimes = new int[MOST_OPEN];
        private final int[] openedSize = new int[MOST_OPEN];
        private int digit = 0;
        private boolean stepDue = true;

        /** 0, or the fault. */
        int read(Tape text, int sort) {
            size = 0;
            open = 0;
            digit = 0;
            stepDue = true;
            for (; text.place < text.size; text.place++) {
                int fault = readByte(text);
                if (fault != 0) {
                    return fault;
                }
            }
            if (digit != 0 || stepDue || open > 0) {
                return text.fault(1);
            }
            return firstNoSpouse(sort);
        }

        private int readByte(Tape text) {
            int c = text.now();
            if (c == '(') {
                return openRound(text);
            }
            if (c == ')') {
                return closeRound(text);
            }
            if (c >= '2' && c <= '9' && digit == 0) {
                digit = c - '0';
                return 0;
            }
            int step = stepOf(c);
            return step < 0 ? text.fault(1) : addStep(step, text);
        }

        private int addStep(int step, Tape text) {
            int start = startHere(text);
            int times = timesHere();
            if (size + times > MOST_STEPS) {
                return fault(6, start);
            }
            for (int i = 0; i < times; i++) {
                steps[size] = step;
                places[size++] = text.place;
            }
            stepDue = false;
            return 0;
        }

        private int openRound(Tape text) {
            if (open == MOST_OPEN) {
                return text.fault(5);
            }
            openedAt[open] = startHere(text);
            openedTimes[open] = timesHere();
            openedSize[open] = size;
            open++;
            stepDue = true;
            return 0;
        }

        private int closeRound(Tape text) {
            if (open == 0 || stepDue || digit != 0) {
                return text.fault(1);
            }
            open--;
            int first = openedSize[open];
            int whole = size - first;
            int last = first + whole * openedTimes[open];
            if (last > MOST_STEPS) {
                return fault(6, openedAt[open]);
            }
            for (; size < last; size++) {
                steps[size] = steps[size - whole];
                places[size] = places[size - whole];
            }
            return 0;
        }

        private int startHere(Tape text) {
            return digit == 0 ? text.place : text.place - 1;
        }

        private int timesHere() {
            int times = Math.max(digit, 1);
            digit = 0;
            return times;
        }

        private int firstNoSpouse(int sort) {
            int who = sort;
            for (int i = 0; i < size; i++) {
                if (!canStep(steps[i], who)) {
                    return fault(7, places[i]);
                }
                who = sortBehind(steps[i]);
            }
            return 0;
        }

        int sortAtEnd() {
            return size > 0 ? sortBehind(steps[size - 1]) : MAN;
        }

        int lead(Rule rule, int name, int sort) {
            int who = sort;
            int at = name;
            for (int i = 0; i < size; i++) {
                at = rule.go(steps[i], who, at);
                who = sortBehind(steps[i]);
            }
            return at;
        }

        int unchanged(Rule rule, int sort) {
            int same = 0;
            for (int name = 0; name < rule.names; name++) {
                if (lead(rule, name, sort) == name) {
                    same++;
                }
            }
            return same;
        }

        /** The least number that the length of each name's own circle divides. */
        int rounds(Rule rule, int sort) {
            int all = 1;
            for (int name = 0; name < rule.names; name++) {
                int length = circle(rule, name, sort);
                int step = all;
                for (int i = 1; i < length && all % length != 0; i++) {
                    all += step;
                }
            }
            return all;
        }

        // Always at least 1, and at most the number of names: a word never leads two names to one.
        private int circle(Rule rule, int name, int sort) {
            int at = lead(rule, name, sort);
            int length = 1;
            for (; length < rule.names && at != name; length++) {
                at = lead(rule, at, sort);
            }
            return length;
        }

        int lawfulFrom(Rule rule, int sort) {
            int lawful = 0;
            for (int name = 0; name < rule.names; name++) {
                if (isLawful(rule, name, sort)) {
                    lawful |= 1 << name;
                }
            }
            return lawful;
        }

        boolean alwaysLawful(Rule rule, int sort) {
            for (int name = 0; name < rule.names; name++) {
                if (!isLawful(rule, name, sort)) {
                    return false;
                }
            }
            return true;
        }

        private boolean isLawful(Rule rule, int name, int sort) {
            return sortAtEnd() != sort && lead(rule, name, sort) == rule.spouse(sort, name);
        }

        int leadOnRoll(Roll roll, int p) {
            int those = 1 << p;
            for (int i = 0; i < size; i++) {
                those = roll.relatedToAny(steps[i], those);
            }
            return those;
        }
    }

    /** A shortest word, step by step, and how many words there are. */
    private static final class Row {
        private static final int NODES = 2 * MOST_NAMES;
        private static final int UNSEEN = -1;

        private int size = 0;
        private final int[] steps = new int[MOST_STEPS];
        private final int[] cameFrom = new int[NODES];
        private final int[] cameBy = new int[NODES];
        private final int[] queue = new int[NODES];
        private int queued = 0;
        private final int[] far = new int[MOST_PEOPLE + 1];
        private long[] waysTo = new long[NODES];
        private long[] waysNext = new long[NODES];

        int tell(int what) {
            if (what == HOW_MANY) {
                return size;
            }
            return what >= 0 && what < size ? STEP_LETTERS[steps[what]] : NO_SUCH_STEP;
        }

        private static int next(Rule rule, int step, int node) {
            return 2 * rule.go(step, node & 1, node >> 1) + sortBehind(step);
        }

        /**
         * Nodes are twice the name and the sort. Each is first come to by its least row,
         * since those of one length are queued in the order of their rows.
         */
        boolean findOnNames(Rule rule, int start, int goal) {
            Arrays.fill(cameFrom, UNSEEN);
            cameFrom[start] = start;
            queue[0] = start;
            queued = 1;
            for (int i = 0; i < NODES && i < queued; i++) {
                for (int step = 0; step < STEP_KINDS; step++) {
                    if (canStep(step, queue[i] & 1)) {
                        comeTo(next(rule, step, queue[i]), queue[i], step);
                    }
                }
            }
            if (cameFrom[goal] == UNSEEN) {
                return false;
            }
            writeBack(start, goal);
            return true;
        }

        private void comeTo(int node, int from, int step) {
            if (cameFrom[node] == UNSEEN && queued < NODES) {
                cameFrom[node] = from;
                cameBy[node] = step;
                queue[queued++] = node;
            }
        }

        private void writeBack(int start, int goal) {
            size = 0;
            int node = goal;
            for (int i = 0; i < NODES && node != start; i++) {
                node = cameFrom[node];
                size++;
            }
            node = goal;
            for (int i = size - 1; i >= 0; i--) {
                steps[i] = cameBy[node];
                node = cameFrom[node];
            }
        }

        /** No longer row need be looked at: a son's mother has always the name of a wife. */
        boolean findCousin(Rule rule) {
            for (int step = 0; step < STEP_KINDS; step++) {
                // A man's brother has his name and sort: so this asks for the step alone.
                if (isCousin(rule, BROTHER, step)) {
                    size = 1;
                    steps[0] = step;
                    return true;
                }
            }
            for (int pair = 0; pair < STEP_KINDS * STEP_KINDS; pair++) {
                if (isCousin(rule, pair / STEP_KINDS, pair % STEP_KINDS)) {
                    size = 2;
                    steps[0] = pair / STEP_KINDS;
                    steps[1] = pair % STEP_KINDS;
                    return true;
                }
            }
            return false;
        }

        private static boolean isCousin(Rule rule, int first, int second) {
            boolean is = isBlood(first) && isBlood(second) && sortBehind(second) == WOMAN;
            for (int name = 0; name < rule.names && is; name++) {
                int middle = rule.go(first, MAN, name);
                is = rule.go(second, sortBehind(first), middle) == rule.wife[name];
            }
            return is;
        }

        private static boolean isBlood(int step) {
            return step != HUSBAND && step != WIFE;
        }

        long howMany(Rule rule, int k, int start, int goal) {
            Arrays.fill(waysTo, 0L);
            waysTo[start] = 1L;
            for (int i = 0; i < k; i++) {
                addOneStep(rule);
            }
            return waysTo[goal];
        }

        private void addOneStep(Rule rule) {
            Arrays.fill(waysNext, 0L);
            for (int node = 0; node < 2 * rule.names; node++) {
                for (int step = 0; step < STEP_KINDS; step++) {
                    if (canStep(step, node & 1)) {
                        waysNext[next(rule, step, node)] += waysTo[node];
                    }
                }
            }
            long[] before = waysTo;
            waysTo = waysNext;
            waysNext = before;
        }

        /**
         * A word leads to several people, so its least row is sought among all to whom the row so far leads.
         * Whoever is related to one has him related in turn: so as far as one is from q is q from him.
         */
        boolean findOnPeople(Roll roll, int p, int q) {
            size = layersFrom(roll, q, p);
            if (size < 0) {
                return false;
            }
            int those = 1 << p;
            for (int i = 0; i < size; i++) {
                those = leastStep(roll, those, i);
            }
            return true;
        }

        private int leastStep(Roll roll, int those, int i) {
            int nearer = far[size - i - 1];
            for (int step = 0; step < STEP_KINDS; step++) {
                int next = roll.relatedToAny(step, those) & nearer;
                if (next != 0) {
                    steps[i] = step;
                    return next;
                }
            }
            return 0;
        }

        /** Those who are so many steps from q, till p is among them: how many steps that is, or -1. */
        private int layersFrom(Roll roll, int q, int p) {
            int seen = 1 << q;
            far[0] = seen;
            for (int i = 0; i < MOST_PEOPLE; i++) {
                if ((far[i] >> p & 1) != 0) {
                    return i;
                }
                int next = 0;
                for (int step = 0; step < STEP_KINDS; step++) {
                    next |= roll.relatedToAny(step, far[i]);
                }
                far[i + 1] = next & ~seen;
                seen |= next;
            }
            return -1;
        }
    }

    /** The unlike ways names can be changed by wife and child. */
    private static final class Changes {
        static final int[] FACTORIALS = {1, 1, 2, 6, 24, 120, 720};
        static final int MOST = 720;

        private final int[] seen = new int[MOST];
        private final int[] queue = new int[MOST];
        private final int[] now = new int[MOST_NAMES];
        private final int[] then = new int[MOST_NAMES];
        private final int[] side = new int[MOST_NAMES];
        private int found = 0;

        /** The row of that number among all rows of the names, by their order. */
        static void unpack(int number, int[] row, int names) {
            int rest = number;
            int used = 0;
            for (int i = 0; i < names; i++) {
                int block = FACTORIALS[names - 1 - i];
                int skip = rest / block;
                rest %= block;
                int name = unusedAt(used, skip);
                used |= 1 << name;
                row[i] = name;
            }
        }

        private static int unusedAt(int used, int skip) {
            int left = skip;
            for (int name = 0; name < MOST_NAMES; name++) {
                if ((used >> name & 1) == 0) {
                    if (left == 0) {
                        return name;
                    }
                    left--;
                }
            }
            return 0;
        }

        private static int pack(int[] row, int names) {
            int number = 0;
            for (int i = 0; i < names; i++) {
                int lower = 0;
                for (int j = i + 1; j < names; j++) {
                    if (row[j] < row[i]) {
                        lower++;
                    }
                }
                number += lower * FACTORIALS[names - 1 - i];
            }
            return number;
        }

        /** How many ways; once there are as many as most, no more are looked for. */
        int size(Rule rule, int most) {
            Arrays.fill(seen, 0, FACTORIALS[rule.names], 0);
            seen[0] = 1;
            queue[0] = 0;
            found = 1;
            for (int i = 0; i < MOST && i < found && found < most; i++) {
                unpack(queue[i], now, rule.names);
                reach(rule.wife, rule.names);
                reach(rule.child, rule.names);
            }
            return found;
        }

        private void reach(int[] change, int names) {
            for (int i = 0; i < names; i++) {
                then[i] = change[now[i]];
            }
            int number = pack(then, names);
            if (seen[number] == 0 && found < MOST) {
                seen[number] = 1;
                queue[found++] = number;
            }
        }

        int sides(Rule rule) {
            for (int i = 0; i < rule.names; i++) {
                side[i] = i;
            }
            for (int i = 0; i < rule.names; i++) {
                join(side, rule.names, i, rule.wife[i]);
                join(side, rule.names, i, rule.child[i]);
            }
            int sides = 0;
            for (int i = 0; i < rule.names; i++) {
                if (side[i] == i) {
                    sides++;
                }
            }
            return sides;
        }
    }

    /** The lowest of some (bits); 0 of none. */
    private static int lowestOf(int those) {
        int lowest = 0;
        for (int i = 31; i >= 0; i--) {
            if ((those >> i & 1) != 0) {
                lowest = i;
            }
        }
        return lowest;
    }

    /** Two groups become one, which is called by its lowest. */
    private static void join(int[] group, int size, int a, int b) {
        int low = Math.min(group[a], group[b]);
        int high = Math.max(group[a], group[b]);
        for (int i = 0; i < size; i++) {
            if (group[i] == high) {
                group[i] = low;
            }
        }
    }

    /** People as they are told. */
    private static final class Roll {
        static final int NOBODY = -1;

        int size = 0;
        final int[] sort = new int[MOST_PEOPLE];
        final int[] told = new int[MOST_PEOPLE];
        final int[] father = new int[MOST_PEOPLE];
        final int[] mother = new int[MOST_PEOPLE];
        final int[] wed = new int[MOST_PEOPLE];
        final int[] children = new int[MOST_PEOPLE];
        final int[] siblings = new int[MOST_PEOPLE];
        int men = 0;
        int wedOnes = 0;
        private int number = 0;

        boolean has(int p) {
            return p >= 0 && p < size;
        }

        /** 0, or the fault. */
        int read(Tape text, int names) {
            size = 0;
            for (int i = 0; i <= MOST_PEOPLE; i++) {
                int fault = readPerson(text, names);
                if (fault != 0) {
                    return fault;
                }
                size++;
                if (text.now() != ';') {
                    break;
                }
                text.place++;
            }
            relateAll();
            return text.end();
        }

        private int readPerson(Tape text, int names) {
            int c = text.now();
            if (c != 'M' && c != 'F') {
                return text.fault(1);
            }
            if (size == MOST_PEOPLE) {
                return text.fault(4);
            }
            sort[size] = c == 'M' ? MAN : WOMAN;
            father[size] = NOBODY;
            mother[size] = NOBODY;
            wed[size] = NOBODY;
            text.place++;
            told[size] = nameOf(text.now());
            if (told[size] >= names) {
                return text.fault(6);
            }
            if (told[size] >= 0) {
                text.place++;
            }
            int fault = readParents(text);
            return fault != 0 ? fault : readSpouse(text);
        }

        private int readParents(Tape text) {
            if (text.now() != '<') {
                return 0;
            }
            text.place++;
            int fault = readParent(text, MAN);
            if (fault != 0) {
                return fault;
            }
            father[size] = number;
            fault = text.sign(',');
            if (fault != 0) {
                return fault;
            }
            fault = readParent(text, WOMAN);
            mother[size] = number;
            return fault;
        }

        private int readParent(Tape text, int due) {
            number = NOBODY;
            if (text.now() == '-') {
                text.place++;
                return 0;
            }
            int first = text.place;
            int fault = readNumber(text);
            if (fault != 0) {
                return fault;
            }
            return sort[number] == due ? 0 : fault(7, first);
        }

        private int readSpouse(Tape text) {
            if (text.now() != '&') {
                return 0;
            }
            text.place++;
            int first = text.place;
            int fault = readNumber(text);
            if (fault != 0) {
                return fault;
            }
            if (sort[number] == sort[size] || wed[number] != NOBODY) {
                return fault(8, first);
            }
            wed[size] = number;
            wed[number] = size;
            return 0;
        }

        private int readNumber(Tape text) {
            int first = text.place;
            number = 0;
            for (int digits = 0; digits < 3 && isDigit(text.now()); digits++) {
                if (digits == 2) {
                    return text.fault(2);
                }
                number = 10 * number + text.now() - '0';
                text.place++;
            }
            if (text.place == first) {
                return text.fault(1);
            }
            return number < size ? 0 : fault(3, first);
        }

        private void relateAll() {
            men = 0;
            wedOnes = 0;
            for (int p = 0; p < size; p++) {
                men |= sort[p] == MAN ? 1 << p : 0;
                wedOnes |= bit(wed[p]) == 0 ? 0 : 1 << p;
                children[p] = 0;
                siblings[p] = 0;
                for (int q = 0; q < size; q++) {
                    if (father[q] == p || mother[q] == p) {
                        children[p] |= 1 << q;
                    }
                    if (q != p && (isSame(father[p], father[q]) || isSame(mother[p], mother[q]))) {
                        siblings[p] |= 1 << q;
                    }
                }
            }
        }

        private static boolean isSame(int parent, int other) {
            return parent != NOBODY && parent == other;
        }

        static int bit(int p) {
            return p < 0 ? 0 : 1 << p;
        }

        void forgetNamesFrom(int names) {
            for (int p = 0; p < size; p++) {
                if (told[p] >= names) {
                    told[p] = NOBODY;
                }
            }
        }

        private int related(int step, int p) {
            switch (step) {
                case FATHER: return bit(father[p]);
                case MOTHER: return bit(mother[p]);
                case HUSBAND: return bit(wed[p]) & men;
                case WIFE: return bit(wed[p]) & ~men;
                case SON: return children[p] & men;
                case DAUGHTER: return children[p] & ~men;
                case BROTHER: return siblings[p] & men;
                case SISTER: return siblings[p] & ~men;
                default: return 0;
            }
        }

        int relatedToAny(int step, int those) {
            int all = 0;
            for (int p = 0; p < size; p++) {
                if ((those >> p & 1) != 0) {
                    all |= related(step, p);
                }
            }
            return all;
        }

        int nearTo(int p) {
            return bit(father[p]) | bit(mother[p]) | children[p] | siblings[p];
        }

        /** Children have higher numbers than their parents: so going through all once is enough. */
        int comeFrom(int p) {
            int all = children[p];
            for (int q = p + 1; q < size; q++) {
                if ((all >> q & 1) != 0) {
                    all |= children[q];
                }
            }
            return all;
        }

        int aheadOf(int p) {
            int all = bit(father[p]) | bit(mother[p]);
            for (int q = p - 1; q >= 0; q--) {
                if ((all >> q & 1) != 0) {
                    all |= bit(father[q]) | bit(mother[q]);
                }
            }
            return all;
        }

        int generation(int p) {
            int those = 1 << p;
            for (int steps = 0; steps < MOST_PEOPLE; steps++) {
                those = relatedToAny(FATHER, those) | relatedToAny(MOTHER, those);
                if (those == 0) {
                    return steps;
                }
            }
            return 0;
        }

        /** Lower ones of the weddings that are not lawful by told names (bits). */
        int wrongWeddings(Rule rule) {
            int wrong = 0;
            for (int p = 0; p < size; p++) {
                int q = wed[p];
                if (q > p && told[p] >= 0 && told[q] >= 0 && rule.spouse(sort[p], told[p]) != told[q]) {
                    wrong |= 1 << p;
                }
            }
            return wrong;
        }

        /** Children whose told name is not that of their mother's child (bits). */
        int wrongChildren(Rule rule) {
            int wrong = 0;
            for (int p = 0; p < size; p++) {
                int m = mother[p];
                if (m >= 0 && told[p] >= 0 && told[m] >= 0 && rule.child[told[m]] != told[p]) {
                    wrong |= 1 << p;
                }
            }
            return wrong;
        }
    }

    /**
     * Groups that hang together by parents and weddings. One name in a house settles all others:
     * so each name of its lowest one (the head) is tried.
     */
    private static final class Houses {
        final int[] mayBe = new int[MOST_PEOPLE];
        private final int[] head = new int[MOST_PEOPLE];
        private final int[] name = new int[MOST_PEOPLE];
        private final int[] off = new int[MOST_PEOPLE];
        private final int[] fewest = new int[MOST_PEOPLE];
        private final int[] gone = new int[MOST_PEOPLE];
        private int broken = 0;

        private static final int NEVER = MOST_PEOPLE + 1;
        private static final int UNNAMED = -1;

        void settle(Rule rule, Roll roll) {
            findHeads(roll);
            Arrays.fill(mayBe, 0);
            Arrays.fill(fewest, NEVER);
            Arrays.fill(gone, 0);
            for (int first = 0; first < rule.names; first++) {
                nameAll(rule, roll, first);
                findBroken(rule, roll);
                takeIn(roll);
            }
        }

        private void findHeads(Roll roll) {
            for (int p = 0; p < roll.size; p++) {
                head[p] = p;
            }
            for (int p = 0; p < roll.size; p++) {
                joinTo(roll, p, roll.father[p]);
                joinTo(roll, p, roll.mother[p]);
                joinTo(roll, p, roll.wed[p]);
            }
        }

        private void joinTo(Roll roll, int p, int other) {
            if (roll.has(other)) {
                join(head, roll.size, p, other);
            }
        }

        /** All names that follow if each head has this one. */
        private void nameAll(Rule rule, Roll roll, int first) {
            for (int p = 0; p < roll.size; p++) {
                name[p] = head[p] == p ? first : UNNAMED;
            }
            boolean more = true;
            for (int i = 0; i < roll.size && more; i++) {
                more = false;
                for (int p = 0; p < roll.size; p++) {
                    more |= nameNext(rule, roll, p, roll.father[p], FATHER);
                    more |= nameNext(rule, roll, p, roll.mother[p], MOTHER);
                    more |= nameNext(rule, roll, p, roll.wed[p], roll.sort[p] == MAN ? WIFE : HUSBAND);
                }
            }
        }

        /** True if p, or the one to whom the step leads from p, gets a name by the other's. */
        private boolean nameNext(Rule rule, Roll roll, int p, int other, int step) {
            if (!roll.has(other) || (name[p] == UNNAMED) == (name[other] == UNNAMED)) {
                return false;
            }
            if (name[p] != UNNAMED) {
                name[other] = rule.go(step, roll.sort[p], name[p]);
            } else if (step == FATHER || step == MOTHER) {
                name[p] = rule.go(SON, roll.sort[other], name[other]);
            } else {
                name[p] = rule.spouse(roll.sort[other], name[other]);
            }
            return true;
        }

        /** The heads of houses that hang together wrongly with the names that all have now. */
        private void findBroken(Rule rule, Roll roll) {
            broken = 0;
            for (int p = 0; p < roll.size; p++) {
                boolean right = fits(rule, roll, p, roll.father[p], FATHER)
                        && fits(rule, roll, p, roll.mother[p], MOTHER)
                        && fits(rule, roll, p, roll.wed[p], roll.sort[p] == MAN ? WIFE : HUSBAND);
                if (!right) {
                    broken |= 1 << head[p];
                }
            }
        }

        private boolean fits(Rule rule, Roll roll, int p, int other, int step) {
            if (!roll.has(other)) {
                return true;
            }
            return name[p] != UNNAMED && name[other] == rule.go(step, roll.sort[p], name[p]);
        }

        private void takeIn(Roll roll) {
            Arrays.fill(off, 0);
            for (int p = 0; p < roll.size; p++) {
                if (roll.told[p] >= 0 && roll.told[p] != name[p]) {
                    off[head[p]] |= 1 << p;
                }
            }
            for (int p = 0; p < roll.size; p++) {
                int h = head[p];
                if ((broken >> h & 1) != 0) {
                    continue;
                }
                if (off[h] == 0) {
                    mayBe[p] |= 1 << name[p];
                }
                if (h == p && Integer.bitCount(off[h]) < fewest[h]) {
                    fewest[h] = Integer.bitCount(off[h]);
                    gone[h] = off[h];
                }
            }
        }

        int sureName(int p) {
            if (mayBe[p] == 0) {
                return -3;
            }
            return Integer.bitCount(mayBe[p]) == 1 ? lowestOf(mayBe[p]) : NOTHING;
        }

        int howMany(int size, boolean wrongAlone) {
            int many = 0;
            for (int p = 0; p < size; p++) {
                if (head[p] == p && (!wrongAlone || mayBe[p] == 0)) {
                    many++;
                }
            }
            return many;
        }

        int wrongOnes(int size) {
            int wrong = 0;
            for (int p = 0; p < size; p++) {
                if (mayBe[p] == 0) {
                    wrong |= 1 << p;
                }
            }
            return wrong;
        }

        boolean canBeMended(int size) {
            for (int p = 0; p < size; p++) {
                if (head[p] == p && fewest[p] == NEVER) {
                    return false;
                }
            }
            return true;
        }

        int goneNames(int size) {
            int all = 0;
            for (int p = 0; p < size; p++) {
                if (head[p] == p) {
                    all |= gone[p];
                }
            }
            return all;
        }

        int suitable(Rule rule, Roll roll, int p) {
            if (roll.wed[p] >= 0) {
                return 0;
            }
            int due = spouseNames(rule, roll.sort[p], mayBe[p]);
            int near = roll.nearTo(p);
            int may = 0;
            for (int q = 0; q < roll.size; q++) {
                boolean free = roll.sort[q] != roll.sort[p] && roll.wed[q] < 0 && (near >> q & 1) == 0;
                if (free && (mayBe[q] & due) != 0) {
                    may |= 1 << q;
                }
            }
            return may;
        }

        private static int spouseNames(Rule rule, int sort, int names) {
            int due = 0;
            for (int name = 0; name < rule.names; name++) {
                if ((names >> name & 1) != 0) {
                    due |= 1 << rule.spouse(sort, name);
                }
            }
            return due;
        }
    }

    /** The most weddings at once: man after man, others give way where that makes one more. */
    private static final class Matches {
        private static final int NOBODY = -1;

        private final int[] may = new int[MOST_PEOPLE];
        private final int[] partner = new int[MOST_PEOPLE];
        private final int[] askedBy = new int[MOST_PEOPLE];
        private final int[] queue = new int[MOST_PEOPLE];

        int most(Rule rule, Roll roll, Houses houses) {
            for (int p = 0; p < roll.size; p++) {
                may[p] = houses.suitable(rule, roll, p);
                partner[p] = NOBODY;
            }
            int many = 0;
            for (int p = 0; p < roll.size; p++) {
                if (roll.sort[p] == MAN && findFor(p, roll.size)) {
                    many++;
                }
            }
            return many;
        }

        private boolean findFor(int man, int size) {
            int seen = 0;
            int queued = 1;
            queue[0] = man;
            for (int i = 0; i < MOST_PEOPLE && i < queued; i++) {
                int asking = queue[i];
                for (int woman = 0; woman < size; woman++) {
                    if ((may[asking] & ~seen & 1 << woman) == 0) {
                        continue;
                    }
                    seen |= 1 << woman;
                    askedBy[woman] = asking;
                    if (partner[woman] == NOBODY) {
                        giveWay(woman);
                        return true;
                    }
                    if (queued < MOST_PEOPLE) {
                        queue[queued++] = partner[woman];
                    }
                }
            }
            return false;
        }

        private void giveWay(int free) {
            int woman = free;
            for (int i = 0; i < MOST_PEOPLE && woman != NOBODY; i++) {
                int man = askedBy[woman];
                int left = partner[man];
                partner[man] = woman;
                partner[woman] = man;
                woman = left;
            }
        }
    }

    /** Clauses, each the code of its worth and that of its condition, for a machine with a stack. */
    private static final class Law {
        static final int MOST_CLAUSES = 16;
        static final char NUMBER = '#';
        static final char LETTER = 'a';

        int clauses = 0;
        final int[] kinds = new int[MOST_CLAUSES];
        final int[] worthFrom = new int[MOST_CLAUSES];
        final int[] holdsFrom = new int[MOST_CLAUSES];
        final int[] holdsTo = new int[MOST_CLAUSES];
        int size = 0;
        final char[] codes = new char[LONG_BYTES];
        final int[] with = new int[LONG_BYTES];
        private final int[] stack = new int[64];
        private int depth = 0;
        private boolean refused = false;

        void clear() {
            clauses = 0;
            size = 0;
        }

        void emit(char code, int what) {
            if (size < LONG_BYTES) {
                codes[size] = code;
                with[size++] = what;
            }
        }

        /** The worth of the first clause of a kind that holds, within 0 and most; none if there is none. */
        int worth(char kind, int[] letters, int none, int most) {
            for (int i = 0; i < clauses; i++) {
                if (kinds[i] == kind && run(holdsFrom[i], holdsTo[i], letters) != 0) {
                    int worth = run(worthFrom[i], holdsFrom[i], letters);
                    return Math.max(0, Math.min(worth, most));
                }
            }
            return none;
        }

        boolean anyHolds(char kind, int[] letters) {
            for (int i = 0; i < clauses; i++) {
                if (kinds[i] == kind && run(holdsFrom[i], holdsTo[i], letters) != 0) {
                    return true;
                }
            }
            return false;
        }

        /** What the code comes to; 0 if a division is refused. */
        private int run(int from, int to, int[] letters) {
            depth = 0;
            refused = false;
            int skipTo = from;
            for (int at = from; at < to && !refused; at++) {
                if (at < skipTo) {
                    continue;
                }
                switch (codes[at]) {
                    case NUMBER:
                        push(with[at]);
                        break;
                    case LETTER:
                        push(letters[with[at]]);
                        break;
                    case '!':
                        push(1 - pop());
                        break;
                    case '&':
                    case '|':
                        // What settles the row is kept, and what stands behind it is left out.
                        if ((top() != 0) == (codes[at] == '|')) {
                            skipTo = with[at];
                        } else {
                            pop();
                        }
                        break;
                    default:
                        int right = pop();
                        push(reckon(codes[at], pop(), right));
                }
            }
            return refused ? 0 : top();
        }

        private void push(int value) {
            if (depth < stack.length) {
                stack[depth++] = value;
            }
        }

        private int top() {
            return depth > 0 ? stack[depth - 1] : 0;
        }

        private int pop() {
            int value = top();
            depth = Math.max(0, depth - 1);
            return value;
        }

        private int reckon(char code, int left, int right) {
            switch (code) {
                case '+': return left + right;
                case '-': return left - right;
                case '*': return left * right;
                case '<': return left < right ? 1 : 0;
                case '>': return left > right ? 1 : 0;
                case '=': return left == right ? 1 : 0;
                default: break;
            }
            if (right == 0) {
                refused = true;
                return 0;
            }
            return code == '/' ? left / right : left % right;
        }
    }

    /** Reads a text as a law. Each reading answers 0, or the fault; open is how many of ( [ ! are open. */
    private static final class LawReader {
        private static final int MOST_OPEN = 6;
        private static final int MOST_DIGITS = 5;
        private static final char[] LETTERS = {'n', 'm', 'v', 'k', 'a', 'p', 't', 'q'};

        static int read(Tape text, Law law) {
            law.clear();
            int fault = readClause(text, law);
            for (int i = 0; i < text.size && fault == 0 && text.now() == ';'; i++) {
                text.place++;
                fault = readClause(text, law);
            }
            return fault != 0 ? fault : text.end();
        }

        private static int readClause(Tape text, Law law) {
            int kind = text.now();
            if (kind != 'w' && kind != 'b' && kind != 'd' && kind != 'x') {
                return text.fault(1);
            }
            int clause = law.clauses;
            if (clause >= Law.MOST_CLAUSES) {
                return text.fault(4);
            }
            text.place++;
            law.kinds[clause] = kind;
            law.worthFrom[clause] = law.size;
            int fault = kind == 'x' ? 0 : readSum(text, law, 0);
            if (fault != 0) {
                return fault;
            }
            law.holdsFrom[clause] = law.size;
            fault = text.now() == '(' ? readBracket(text, law, 1) : text.fault(1);
            law.holdsTo[clause] = law.size;
            law.clauses++;
            return fault;
        }

        /** The ( has been looked at, and is one of those that are open. */
        private static int readBracket(Tape text, Law law, int open) {
            text.place++;
            int fault = readChoice(text, law, open);
            return fault != 0 ? fault : text.sign(')');
        }

        private static int readChoice(Tape text, Law law, int open) {
            int last = -1;
            int fault = readPart(text, law, open);
            for (int i = 0; i < text.size && fault == 0 && text.now() == '|'; i++) {
                last = emitSkip(text, law, last);
                fault = readPart(text, law, open);
            }
            endSkip(law, last);
            return fault;
        }

        private static int readPart(Tape text, Law law, int open) {
            int last = -1;
            int fault = readTest(text, law, open);
            for (int i = 0; i < text.size && fault == 0 && text.now() == '&'; i++) {
                last = emitSkip(text, law, last);
                fault = readTest(text, law, open);
            }
            endSkip(law, last);
            return fault;
        }

        /** A skip leads to the next one of its row, which then skips on in turn. */
        private static int emitSkip(Tape text, Law law, int last) {
            endSkip(law, last);
            law.emit((char) text.now(), 0);
            text.place++;
            return law.size - 1;
        }

        private static void endSkip(Law law, int last) {
            if (last >= 0) {
                law.with[last] = law.size;
            }
        }

        private static int readTest(Tape text, Law law, int open) {
            int c = text.now();
            if ((c == '!' || c == '(') && open == MOST_OPEN) {
                return text.fault(5);
            }
            if (c == '(') {
                return readBracket(text, law, open + 1);
            }
            if (c == '!') {
                text.place++;
                int fault = readTest(text, law, open + 1);
                law.emit('!', 0);
                return fault;
            }
            int fault = readSum(text, law, open);
            if (fault != 0) {
                return fault;
            }
            int sign = text.now();
            if (sign != '<' && sign != '>' && sign != '=') {
                return text.fault(1);
            }
            text.place++;
            fault = readSum(text, law, open);
            law.emit((char) sign, 0);
            return fault;
        }

        private static int readSum(Tape text, Law law, int open) {
            int fault = readTerm(text, law, open);
            int sign = text.now();
            for (int i = 0; i < text.size && fault == 0 && (sign == '+' || sign == '-'); i++) {
                text.place++;
                fault = readTerm(text, law, open);
                law.emit((char) sign, 0);
                sign = text.now();
            }
            return fault;
        }

        private static int readTerm(Tape text, Law law, int open) {
            int fault = readFactor(text, law, open);
            int sign = text.now();
            for (int i = 0; i < text.size && fault == 0 && (sign == '*' || sign == '/' || sign == '%'); i++) {
                text.place++;
                fault = readFactor(text, law, open);
                law.emit((char) sign, 0);
                sign = text.now();
            }
            return fault;
        }

        private static int readFactor(Tape text, Law law, int open) {
            int c = text.now();
            if (isDigit(c)) {
                return readNumber(text, law);
            }
            if (c == '[') {
                if (open == MOST_OPEN) {
                    return text.fault(5);
                }
                text.place++;
                int fault = readSum(text, law, open + 1);
                return fault != 0 ? fault : text.sign(']');
            }
            for (int i = 0; i < LETTERS.length; i++) {
                if (LETTERS[i] == c) {
                    text.place++;
                    law.emit(Law.LETTER, i);
                    return 0;
                }
            }
            return text.fault(1);
        }

        private static int readNumber(Tape text, Law law) {
            int number = 0;
            for (int digits = 0; digits <= MOST_DIGITS && isDigit(text.now()); digits++) {
                if (digits == MOST_DIGITS) {
                    return text.fault(2);
                }
                number = 10 * number + text.now() - '0';
                text.place++;
            }
            law.emit(Law.NUMBER, number);
            return 0;
        }
    }

    /** Of each name unwed men, unwed women, couples by the husband's; the year; the number drawn last. */
    private static final class Village {
        final int[] men = new int[MOST_NAMES];
        final int[] women = new int[MOST_NAMES];
        final int[] couples = new int[MOST_NAMES];
        int year = 0;
        int x = 1;
        int wed = 0;
        int born = 0;
        int died = 0;
        private final int[] letters = new int[8];

        void clear() {
            Arrays.fill(men, 0);
            Arrays.fill(women, 0);
            Arrays.fill(couples, 0);
        }

        /** As the other one is, of so many names. */
        void copy(Village other, int names) {
            clear();
            System.arraycopy(other.men, 0, men, 0, names);
            System.arraycopy(other.women, 0, women, 0, names);
            System.arraycopy(other.couples, 0, couples, 0, names);
            year = other.year;
            x = other.x;
        }

        int some(int name, int what) {
            if (what == 0) {
                return men[name];
            }
            return what == 1 ? women[name] : couples[name];
        }

        int allOf(Rule rule, int name) {
            return men[name] + women[name] + couples[name] + couples[rule.husband[name]];
        }

        int all() {
            int all = 0;
            for (int name = 0; name < MOST_NAMES; name++) {
                all += men[name] + women[name] + 2 * couples[name];
            }
            return all;
        }

        int leftMen(Rule rule, int name) {
            return men[name] - women[rule.wife[name]];
        }

        /** So many years, or as many as can; what there was in them is counted anew. */
        void goBy(Rule rule, Law law, int n) {
            wed = 0;
            born = 0;
            died = 0;
            for (int i = 0; i < n && year < LAST_YEAR; i++) {
                for (int name = 0; name < rule.names; name++) {
                    draw(rule, name);
                    wedSome(rule, law, name);
                }
                for (int name = 0; name < rule.names; name++) {
                    draw(rule, name);
                    bearSome(rule, law, name);
                }
                for (int name = 0; name < rule.names; name++) {
                    draw(rule, name);
                    dieSome(law, name);
                }
                year++;
            }
        }

        private void draw(Rule rule, int name) {
            x = (25173 * x + 13849) % 65536;
            letters[0] = name;
            letters[1] = men[name];
            letters[2] = women[rule.wife[name]];
            letters[3] = couples[name];
            letters[4] = allOf(rule, name);
            letters[5] = all();
            letters[6] = year % 100;
            letters[7] = x % 10;
        }

        private void wedSome(Rule rule, Law law, int name) {
            if (law.anyHolds('x', letters)) {
                return;
            }
            int wife = rule.wife[name];
            int can = Math.min(men[name], women[wife]);
            int more = can * law.worth('w', letters, 50, 100) / 100;
            more = Math.min(more, MOST_OF_EACH - couples[name]);
            men[name] -= more;
            women[wife] -= more;
            couples[name] += more;
            wed += more;
        }

        private void bearSome(Rule rule, Law law, int name) {
            int more = couples[name] * law.worth('b', letters, 40, 300) / 100;
            int boys = letters[7] % 2 == 0 ? more - more / 2 : more / 2;
            int child = rule.child[rule.wife[name]];
            men[child] = Math.min(MOST_OF_EACH, men[child] + boys);
            women[child] = Math.min(MOST_OF_EACH, women[child] + more - boys);
            born += more;
        }

        private void dieSome(Law law, int name) {
            int part = law.worth('d', letters, 2, 100);
            int deadMen = men[name] * part / 100;
            int deadWomen = women[name] * part / 100;
            int deadCouples = couples[name] * part / 100;
            men[name] -= deadMen;
            women[name] -= deadWomen;
            couples[name] -= deadCouples;
            died += deadMen + deadWomen + 2 * deadCouples;
        }
    }
}
