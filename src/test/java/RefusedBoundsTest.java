import java.util.function.Consumer;
import java.util.function.Predicate;
import java.util.function.ToLongFunction;

/** A call that is refused changes nothing but the tape, where that is told; a call that asks changes nothing either. */
public final class RefusedBoundsTest {
    private static final int MOST = 9999;

    private RefusedBoundsTest() {
    }

    public static void main(String[] args) {
        Cases.run(RefusedBoundsTest.class);
    }

    /** A valley of which everything has been told, with "abc!" and blanks on the tape. */
    private static Teller told() {
        Teller t = Cases.withRoll("bcad/acbd", "Ma;F&0;M<0,1;Fc;Mb<-,3;M;F<5,-;Fa");
        t.law("w80(n<2);b60(1=1);d9(q>4);x(t=3)");
        t.v.people(0, 90, 80, 70);
        t.v.people(1, 60, 80, 70);
        t.v.keep();
        t.v.people(2, 50, 40, 30);
        t.v.years(4);
        t.feed("abc!");
        return t;
    }

    /** All that can be asked for without the tape. */
    private static String state(NamedToWed v) {
        StringBuilder all = new StringBuilder();
        for (int what = 0; what < 9; what++) {
            all.append(v.count(what)).append(' ');
        }
        for (int name = 0; name < 4; name++) {
            for (int what = 0; what < 6; what++) {
                all.append(v.nameIs(name, what)).append(' ');
            }
        }
        for (int p = 0; p < 8; p++) {
            for (int what = 0; what < 9; what++) {
                all.append(v.personIs(p, what)).append(' ');
            }
            all.append(v.mayWed(p)).append(' ');
        }
        for (int what = 0; what < 4; what++) {
            all.append(v.houses(what)).append(' ').append(v.tried(7, what)).append(' ').append(v.tried(7, 30 + what)).append(' ');
        }
        return all.append(v.mended(1)).append(' ').append(v.weddings()).append(' ').toString();
    }

    /** With what was kept, and what is on the tape. */
    private static String stateWithTape(Teller t) {
        String state = state(t.v);
        String law = "law of the tape " + t.v.law(4) + " ";
        t.v.undo();
        return state + law + state(t.v);
    }

    private static void refused(String call, long due, ToLongFunction<NamedToWed> calls) {
        String before = stateWithTape(told());
        Teller t = told();
        Cases.due(call, due, calls.applyAsLong(t.v));
        Cases.due("all behind " + call, before, stateWithTape(t));
    }

    private static void refused(String call, ToLongFunction<NamedToWed> calls) {
        refused(call, Cases.NONE, calls);
    }

    private static void no(String call, Predicate<NamedToWed> calls) {
        refused(call, 0, v -> calls.test(v) ? 1 : 0);
    }

    /** The tape alone is empty then. */
    private static void faulty(String call, String text, long due, ToLongFunction<Teller> calls) {
        Teller untouched = told();
        untouched.empty();
        String before = stateWithTape(untouched);
        Teller t = told();
        t.empty();
        Cases.due(call + " " + text, due, calls.applyAsLong(t));
        Cases.due("the tape behind " + call, 0, t.tape());
        Cases.due("all behind " + call, before, stateWithTape(t));
    }

    private static void asking(String call, Consumer<NamedToWed> calls) {
        String before = stateWithTape(told());
        Teller t = told();
        calls.accept(t.v);
        Cases.due("all behind " + call, before, stateWithTape(t));
    }

    static void refusedPeople() {
        no("people of no name", v -> v.people(4, 1, 1, 1));
        no("people below", v -> v.people(0, -1, 1, 1));
        no("people above", v -> v.people(0, 1, 1, MOST + 1));
    }

    static void refusedFeed() {
        Teller t = told();
        t.feed(Cases.times("!", 240));
        String before = state(t.v);
        Cases.due("feed", Cases.NONE, t.v.feed(1, 2, 3, 4, 5));
        Cases.due("all", before, state(t.v));
    }

    static void refusedTextsLeaveTheTape() {
        refused("law 0", v -> v.law(0));
        refused("law 21", v -> v.law(21));
        refused("rule 0", v -> v.rule(0));
        refused("rule 21", v -> v.rule(21));
        refused("roll 0", v -> v.roll(0));
        refused("roll 21", v -> v.roll(21));
        refused("kin 0", v -> v.kin(0, 0, 0));
        refused("kin sort", v -> v.kin(1, 2, 0));
        refused("kin what", v -> v.kin(1, 0, 4));
        refused("alike 0", v -> v.alike(0, 1, 0));
        refused("alike 21", v -> v.alike(20, 1, 0));
        refused("allRules 6", v -> v.allRules(6, 1, 0));
        refused("allRules 21", v -> v.allRules(2, 21, 0));
        refused("those 8", v -> v.those(8, 1));
        refused("those 0", v -> v.those(0, 0));
        refused("check 7", -2, v -> v.check(7));
        refused("check -1", -2, v -> v.check(-1));
    }

    static void refusedQuestions() {
        refused("ways", v -> v.ways(3));
        refused("term", v -> v.term(4, 0, 0, 0, 100));
        refused("cousin", v -> v.cousin(101));
        refused("words", v -> v.words(21, 0, 0, 0, 0));
        refused("personIs", v -> v.personIs(8, 0));
        refused("houses", v -> v.houses(3));
        refused("mended", v -> v.mended(2));
        refused("byTold", v -> v.byTold(4));
        refused("whatIs", v -> v.whatIs(0, 8, 100));
        refused("mayWed", v -> v.mayWed(8));
        refused("line", v -> v.line(0, 3));
        refused("tried", v -> v.tried(101, 0));
        refused("nameIs", v -> v.nameIs(0, 6));
        refused("diesOut", v -> v.diesOut(0, 101));
        refused("left", -100000, v -> v.left(2));
        refused("count", v -> v.count(9));
    }

    static void refusedYearsAndSeed() {
        refused("years 0", v -> v.years(0));
        refused("years 101", v -> v.years(101));
        no("seed -1", v -> v.seed(-1));
        no("seed 65536", v -> v.seed(65536));
    }

    static void refusedUndo() {
        Teller t = Cases.withRoll("bcad/acbd", "Ma;F&0");
        t.v.people(0, 1, 2, 3);
        t.v.years(2);
        String before = state(t.v);
        Cases.due("undo", false, t.v.undo());
        Cases.due("all", before, state(t.v));
    }

    static void faultsEmptyTheTapeAlone() {
        faulty("law", "w60(1=1);", -1009, t -> t.law("w60(1=1);"));
        faulty("rule", "badc/abcc", -6008, t -> t.rule("badc/abcc"));
        faulty("roll", "Md;Fd;M&0", -8008, t -> t.roll("Md;Fd;M&0"));
        faulty("kin", "2", -1001, t -> t.kin("2", 0, 0));
        faulty("alike", "h", -7000, t -> t.alike("h", "f", 0));
        faulty("alike, the second", "h", -107000, t -> t.alike("f", "h", 0));
        faulty("allRules", "w!", -1001, t -> t.allRules(5, "w!", 1));
        faulty("those", "w", -7000, t -> t.those(1, "w"));
        faulty("alike", "f and m", -4, t -> t.alike("f", "m", 0));
    }

    static void wordsEmptyTheTapeAlone() {
        faulty("kin", "w", 1, t -> t.kin("w", 0, 0));
        faulty("alike", "w and w", 15, t -> t.alike("w", "w", 0));
        faulty("allRules", "w", 5280, t -> t.allRules(5, "w", 0));
        faulty("allRules", "w", 120, t -> t.allRules(5, "w", 1));
        faulty("those", "w", 2, t -> t.those(0, "w"));
        faulty("check", "no bytes", Cases.NONE, t -> t.v.check(0));
    }

    static void questionsChangeNothing() {
        asking("names", v -> {
            v.ways(0);
            v.ways(1);
            v.ways(2);
            v.term(0, 0, 3, 1, 100);
            v.term(0, 0, 2, 1, 1);
            v.cousin(100);
            v.cousin(5);
            v.words(20, 0, 0, 3, 1);
        });
        asking("people", v -> {
            v.whatIs(0, 7, 100);
            v.whatIs(2, 6, 23);
            v.line(2, 0);
            v.line(2, 1);
            v.line(2, 2);
            v.byTold(0);
            v.byTold(3);
            v.weddings();
        });
        asking("the village", v -> {
            v.tried(100, 3);
            v.diesOut(3, 100);
            v.diesOut(0, 100);
            v.left(0);
            v.left(1);
        });
    }
}
