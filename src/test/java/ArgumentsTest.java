import java.util.Arrays;
import java.util.Random;

/** Every call with numbers just below and above each bound, and far from any: as Model answers, and nothing is thrown. */
public final class ArgumentsTest {
    private static final int[] NUMBERS = {Integer.MIN_VALUE, Integer.MIN_VALUE + 1, -100001, -256, -2, -1, 0, 1, 2, 3, 4, 5, 6, 7, 8, 9,
        10, 11, 12, 15, 16, 19, 20, 21, 22, 23, 24, 25, 29, 30, 31, 32, 35, 36, 39, 40, 41, 60, 80, 99, 100, 101, 102, 103, 104, 105, 239,
        240, 241, 255, 256, 259, 260, 261, 9998, 9999, 10000, 65535, 65536, Integer.MAX_VALUE - 1, Integer.MAX_VALUE};
    private static final String[][] STATES = {
        {}, {"ab/ab"}, {Cases.FOUR, "Ma;F&0;M<0,1;F<0,1;Fc;Mb<-,4;M;F<6,-;M<2,-", "w70(n<2);b90(1=1);d20(q>4);x(q=3)"},
        {"bcdefa/bacdef", "Ma;F" + ";M<0,1;F<0,1".repeat(11), "w100(1=1);b300(k<5000);d1(1=1)" + ";x(1=2)".repeat(13)},
    };
    private static final String[] TEXTS = {"f", "2(fm)w", "w", "h", "mbd", "!", "x(n=0)", "Ma;Fb&0", "ab/ab"};
    /** How many arguments each kind of call takes. */
    private static final int[] TAKES = {1, 1, 1, 3, 3, 1, 5, 1, 5, 3, 2, 1, 1, 1, 3, 2, 1, 2, 1, 2, 2, 2, 1, 1, 1, 1, 4, 0, 0, 0};

    private static final Random RANDOM = new Random(20261119);
    private static NamedToWed valley;
    private static Model model;
    private static int calls;

    private ArgumentsTest() {
    }

    public static void main(String[] args) {
        Cases.run(ArgumentsTest.class);
    }

    private static void feed(String text) {
        for (int from = 0; from < text.length(); from += 20) {
            int[] five = new int[5];
            for (int i = 0; i < 20; i++) {
                five[i / 4] = five[i / 4] << 8 | (from + i < text.length() ? text.charAt(from + i) : ' ');
            }
            valley.feed(five[0], five[1], five[2], five[3], five[4]);
            model.feed(five);
            calls++;
        }
    }

    private static void make(String[] state) {
        valley = new NamedToWed();
        model = new Model();
        calls = 0;
        for (int i = 0; i < state.length; i++) {
            feed(state[i]);
            int n = state[i].length();
            Cases.due(state[i], i == 0 ? model.rule(n) : i == 1 ? model.roll(n) : model.law(n),
                    i == 0 ? valley.rule(n) : i == 1 ? valley.roll(n) : valley.law(n));
        }
        for (int name = 0; name < model.count(1); name++) {
            int many = name == 3 ? 9999 : 40 * name;
            valley.people(name, many, 90, many);
            model.people(name, many, 90, many);
        }
        valley.keep();
        model.keep();
        calls += 20;
    }

    private static long answer(int kind, int a, int b, int c, int d, int e) {
        switch (kind) {
            case 0: return valley.law(a);
            case 1: return valley.rule(a);
            case 2: return valley.roll(a);
            case 3: return valley.kin(a, b, c);
            case 4: return valley.alike(a, b, c);
            case 5: return valley.ways(a);
            case 6: return valley.term(a, b, c, d, e);
            case 7: return valley.cousin(a);
            case 8: return valley.words(a, b, c, d, e);
            case 9: return valley.allRules(a, b, c);
            case 10: return valley.personIs(a, b);
            case 11: return valley.houses(a);
            case 12: return valley.mended(a);
            case 13: return valley.byTold(a);
            case 14: return valley.whatIs(a, b, c);
            case 15: return valley.those(a, b);
            case 16: return valley.mayWed(a);
            case 17: return valley.line(a, b);
            case 18: return valley.years(a);
            case 19: return valley.tried(a, b);
            case 20: return valley.nameIs(a, b);
            case 21: return valley.diesOut(a, b);
            case 22: return valley.left(a);
            case 23: return valley.seed(a) ? 1 : 0;
            case 24: return valley.check(a);
            case 25: return valley.count(a);
            case 26: return valley.people(a, b, c, d) ? 1 : 0;
            case 27: return valley.weddings();
            case 28: return valley.keep();
            default: return valley.undo() ? 1 : 0;
        }
    }

    private static long due(int kind, int a, int b, int c, int d, int e) {
        switch (kind) {
            case 0: return model.law(a);
            case 1: return model.rule(a);
            case 2: return model.roll(a);
            case 3: return model.kin(a, b, c);
            case 4: return model.alike(a, b, c);
            case 5: return model.ways(a);
            case 6: return model.term(a, b, c, d, e);
            case 7: return model.cousin(a);
            case 8: return model.words(a, b, c, d, e);
            case 9: return model.allRules(a, b, c);
            case 10: return model.personIs(a, b);
            case 11: return model.houses(a);
            case 12: return model.mended(a);
            case 13: return model.byTold(a);
            case 14: return model.whatIs(a, b, c);
            case 15: return model.those(a, b);
            case 16: return model.mayWed(a);
            case 17: return model.line(a, b);
            case 18: return model.years(a);
            case 19: return model.tried(a, b);
            case 20: return model.nameIs(a, b);
            case 21: return model.diesOut(a, b);
            case 22: return model.left(a);
            case 23: return model.seed(a) ? 1 : 0;
            case 24: return model.check(a);
            case 25: return model.count(a);
            case 26: return model.people(a, b, c, d) ? 1 : 0;
            case 27: return model.weddings();
            case 28: return model.keep();
            default: return model.undo() ? 1 : 0;
        }
    }

    private static void same(int kind, int[] row, int text) {
        if (calls > 480) {
            make(STATES[text % STATES.length]);
        }
        if (model.count(6) == 0) {
            feed(TEXTS[text]);
        }
        calls++;
        long got = answer(kind, row[0], row[1], row[2], row[3], row[4]);
        Cases.due("kind " + kind + " of " + Arrays.toString(row), due(kind, row[0], row[1], row[2], row[3], row[4]), got);
        calls++;
        Cases.due("the tape", model.count(6), valley.count(6));
    }

    /** One argument goes through all numbers, the others stay near. */
    static void argumentsOneByOne() {
        for (int state = 0; state < STATES.length; state++) {
            for (int kind = 0; kind < TAKES.length; kind++) {
                make(STATES[state]);
                for (int which = 0; which < Math.max(1, TAKES[kind]); which++) {
                    for (int number : NUMBERS) {
                        int[] row = {1, 1, 1, 1, 1};
                        row[which] = number;
                        same(kind, row, state);
                    }
                }
            }
        }
    }

    static void argumentsByChance() {
        for (int i = 0; i < 40000; i++) {
            if (i % 150 == 0) {
                make(STATES[i / 150 % STATES.length]);
            }
            int[] row = new int[5];
            for (int j = 0; j < 5; j++) {
                row[j] = RANDOM.nextInt(4) == 0 ? NUMBERS[RANDOM.nextInt(NUMBERS.length)] : RANDOM.nextInt(3);
            }
            int kind = RANDOM.nextInt(TAKES.length);
            if (kind == 9) {
                // Model takes long for five names.
                row[0] = row[0] == 5 ? 3 : row[0];
            }
            same(kind, row, RANDOM.nextInt(TEXTS.length));
        }
    }
}
