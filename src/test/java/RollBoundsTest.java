/** The bounds of A ROLL and of roll (promise 6): each case asks one sentence of the document. */
public final class RollBoundsTest {
    private static final String DIGITS = "0123456789";

    private RollBoundsTest() {
    }

    public static void main(String[] args) {
        Cases.run(RollBoundsTest.class);
    }

    private static void reads(String text, int due) {
        reads(Cases.FOUR, text, due);
    }

    private static void reads(String rule, String text, int due) {
        Teller t = Cases.withRule(rule);
        Cases.due("roll " + text, due, t.roll(text));
        Cases.due("the tape behind " + text, 0, t.tape());
        Cases.due("people behind " + text, Math.max(due, 0), t.v.count(2));
    }

    private static boolean isIn(String signs, int c) {
        return signs.indexOf(c) >= 0;
    }

    static void rollNoneAtFirst() {
        Cases.due("people", 0, new NamedToWed().count(2));
        Cases.due("people", 0, Cases.withRule("ab/ab").v.count(2));
        Cases.due("houses", 0, Cases.withRule("ab/ab").v.houses(0));
    }

    /** 24 people, none told shorter than he must be. */
    private static String fullText() {
        StringBuilder text = new StringBuilder("Ma<-,-;Fb<-,-&00");
        for (int p = 2; p < 24; p++) {
            boolean man = p % 2 == 0;
            text.append(man ? ";M" : ";F").append(p < 17 ? "a" : "").append("<00,01");
            text.append(man ? "" : p < 11 ? "&0" + (p - 1) : "&" + (p - 1));
        }
        return text.toString();
    }

    static void rollOfAtMost240Bytes() {
        String full = fullText();
        Cases.due("bytes", 240, full.length());
        Teller t = Cases.withRule(Cases.FOUR);
        t.feed(full + "x");
        Cases.due("roll(241)", Cases.NONE, t.v.roll(241));
        Cases.due("the tape stays", 260, t.tape());
        Cases.due("roll(240)", 24, t.v.roll(240));
        Cases.due("the tape is empty", 0, t.tape());
        Cases.due("all are wed", (1 << 24) - 1, t.v.count(4));
        Cases.due("children", (1 << 24) - 4, t.v.personIs(1, 5));
        Cases.due("the last", 22, t.v.personIs(23, 4));
    }

    static void rollNoBlanks() {
        String whole = "Ma<-,-;Fb<0,-&0";
        for (int at = 0; at <= whole.length(); at++) {
            // A number that a blank ends is right so far, and what must follow is missing.
            reads(whole.substring(0, at) + " " + whole.substring(at), -1000 - at);
        }
        reads(whole, 2);
    }

    static void rollOfOneToTwentyFour() {
        for (int n = 1; n <= 24; n++) {
            reads(Cases.times("M;", n - 1) + "F", n);
        }
        reads(Cases.times("M;", 24) + "F", -4048);
        reads(Cases.times("M;", 24) + "F;F", -4048);
    }

    static void rollFault4AtItsLetterIfThatCanStandThere() {
        String full = Cases.times("F;", 23) + "F";
        for (int c = 0; c < 256; c++) {
            reads(full + ";" + (char) c, isIn("MF", c) ? -4048 : -1048);
        }
        reads(full + ";", -1048);
        reads(full + "<", -1048);
        reads(Cases.times("Fa;", 24) + "M!", -4072);
    }

    static void rollFault1AtTheFirstByte() {
        for (int c = 0; c < 256; c++) {
            reads((char) c + "!", isIn("MF", c) ? -1001 : -1000);
            reads("M;" + (char) c + "!", isIn("MF", c) ? -1003 : -1002);
        }
    }

    static void rollFault1BehindTheSort() {
        for (int c = 0; c < 256; c++) {
            reads("M" + (char) c + "!", isIn("abcd<&;", c) ? -1002 : isIn("ef", c) ? -6001 : -1001);
        }
    }

    static void rollFault1BehindTheName() {
        for (int c = 0; c < 256; c++) {
            reads("Fa" + (char) c + "!", isIn("<&;", c) ? -1003 : -1002);
        }
    }

    static void rollFault1OfAFather() {
        for (int c = 0; c < 256; c++) {
            int number = c == '0' || c == '-' ? -1005 : -3004;
            reads("M;F<" + (char) c + "!", isIn(DIGITS + "-", c) ? number : -1004);
            reads("M;F<-" + (char) c + "!", c == ',' ? -1006 : -1005);
        }
    }

    static void rollFault1OfAMother() {
        for (int c = 0; c < 256; c++) {
            int number = c == '0' || c == '-' ? -1007 : -3006;
            reads("F;F<-," + (char) c + "!", isIn(DIGITS + "-", c) ? number : -1006);
            reads("F;F<-,-" + (char) c + "!", isIn("&;", c) ? -1008 : -1007);
        }
    }

    static void rollFault1OfTheOneWed() {
        for (int c = 0; c < 256; c++) {
            int number = c == '0' ? -1005 : -3004;
            reads("F;M&" + (char) c + "!", isIn(DIGITS, c) ? number : -1004);
            reads("F;M&00" + (char) c, isIn(DIGITS, c) ? -2006 : c == ';' ? -1007 : -1006);
        }
    }

    static void rollFault1TheEnd() {
        String whole = "Ma;Fb&0;Mc<0,1";
        int[] due = {1, 1, -1003, 2, 2, -1006, 2, -1008, 3, 3, -1011, -1012, -1013, 3};
        for (int n = 1; n <= whole.length(); n++) {
            reads(whole.substring(0, n), due[n - 1]);
        }
    }

    static void rollFault1OneBehindTheOther() {
        reads("M;F&0<-,-", -1005);
        reads("M<-,-a", -1005);
        reads("M<-,-<-,-", -1005);
        reads("M;F&0&0", -1005);
        reads("M;F<-,-&0", 2);
    }

    static void rollFault2AThirdDigitAtIt() {
        reads("M;F<000", -2006);
        reads("M;F<00,-", 2);
        reads("M;F<-,000", -2008);
        reads("F;M<-,00", 2);
        reads("M;F&000", -2006);
        reads("M;F&00", 2);
    }

    static void rollFault2AheadOf3SinceItsNumberHasNotEnded() {
        reads("M;F<999", -2006);
        reads("M;F<-,999", -2008);
        reads("M;F&123", -2006);
        reads("M;F&12", -3004);
    }

    static void rollFault3NoLowerOne() {
        reads("M<0,-", -3002);
        reads("F<-,0", -3004);
        reads("M&0", -3002);
        for (int n = 1; n < 24; n++) {
            String ahead = Cases.times("M;", n) + "F<";
            int place = ahead.length();
            reads(ahead + (n - 1) + ",-", n + 1);
            reads(ahead + n + ",-", -3000 - place);
            reads(ahead + 99 + ",-", -3000 - place);
        }
    }

    static void rollFault3AtTheFirstDigit() {
        reads("M;F<01,-", -3004);
        reads("M;F<-,10", -3006);
        reads("M;F&01", -3004);
        reads("M;F&1", -3004);
    }

    static void rollFault3AheadOfWhatStandsBehindTheNumber() {
        reads("M;F<9!", -3004);
        reads("M;F<9", -3004);
        reads("M;F&9!", -3004);
        reads("M;F<9,99", -3004);
    }

    static void rollFault6ALetterBeyondTheNames() {
        for (int names = 2; names <= 6; names++) {
            String letters = "abcdef".substring(0, names);
            for (int name = 0; name < 6; name++) {
                String letter = "abcdef".substring(name, name + 1);
                reads(letters + "/" + letters, "M" + letter, name < names ? 1 : -6001);
                reads(letters + "/" + letters, "F;M" + letter + "<-,0", name < names ? 2 : -6003);
            }
            reads(letters + "/" + letters, "Mg", -1001);
        }
    }

    static void rollFault7AFatherThatIsAWoman() {
        reads("F;M<0,-", -7004);
        reads("F;M<00,-", -7004);
        reads("F;M<0", -7004);
        reads("F;M<0!", -7004);
        reads("M;M<0,-", 2);
    }

    static void rollFault7AMotherThatIsAMan() {
        reads("M;F<-,0", -7006);
        reads("M;F<-,00", -7006);
        reads("M;F<0,0", -7006);
        reads("M;F<-,0!", -7006);
        reads("F;F<-,0", 2);
    }

    static void rollFault7OfBothTheFathersFirst() {
        reads("M;F;M<1,0", -7006);
        reads("M;F;M<0,1", 3);
    }

    static void rollFault7Behind3() {
        reads("F;M<1,-", -3004);
        reads("M;F<-,1", -3006);
        reads("F;M<000", -2006);
    }

    static void rollFault8OneOfTheSameSort() {
        reads("M;M&0", -8004);
        reads("F;F&0", -8004);
        reads("F;F&00", -8004);
        reads("M;M<0,-&0", -8008);
        reads("M;F&0", 2);
        reads("F;M&0", 2);
    }

    static void rollFault8OneWhoIsWed() {
        reads("M;F&0;F&0", -8008);
        reads("M;F&0;M&1", -8008);
        reads("M;F&0;F&00", -8008);
        reads("M;F&0;F;M&2", 4);
    }

    static void rollFault8Behind3() {
        reads("M;M&1", -3004);
        reads("M;F&0;F&3", -3008);
        reads("M;M&000", -2006);
    }

    static void rollKinMayBeWed() {
        reads("M;F<0,-&0", 2);
        reads("F;M<-,0&0", 2);
        reads("M;F;M<0,1;F<0,1&2", 4);
    }

    static void rollFirstFaultFromTheLeft() {
        reads("Me<9", -6001);
        reads("F;Me<0", -6003);
        reads("F;M<0,9", -7004);
        reads("M;M&0!", -8004);
        reads("M!;" + Cases.times("M;", 24) + "M", -1001);
        reads(Cases.times("M;", 24) + "Me", -4048);
    }

    static void promise6InPlaceOfTheOneBefore() {
        Teller t = Cases.withRoll(Cases.FOUR, "Ma;Fb&0;Mc<0,1");
        Cases.due("another", 1, t.roll("F"));
        Cases.due("people", 1, t.v.count(2));
        Cases.due("men", 0, t.v.count(3));
        Cases.due("wed", 0, t.v.count(4));
        Cases.due("told", -2, t.v.personIs(0, 1));
        Cases.due("children", 0, t.v.personIs(0, 5));
        Cases.due("no such one", Cases.NONE, t.v.personIs(1, 0));
    }

    static void promise6AFaultTheOneBeforeStays() {
        for (String bad : new String[] {"!", "Ff;Fe", "M;F<000", "M;F<1,-", Cases.times("M;", 24) + "M", "M;F<-,0", "M;M&0",
            "Mb;Fa&0;F&0"}) {
            Teller t = Cases.withRoll(Cases.FOUR, "Ma;F&0;M<0,1");
            Cases.due("a fault", true, t.roll(bad) <= -1000);
            Cases.due("the tape is empty", 0, t.tape());
            Cases.due("people", 3, t.v.count(2));
            Cases.due("men", 5, t.v.count(3));
            Cases.due("wed", 3, t.v.count(4));
            Cases.due("told", 0, t.v.personIs(0, 1));
            Cases.due("sure", 3, t.v.personIs(2, 8));
            Cases.due("children", 4, t.v.personIs(1, 5));
        }
    }

    static void promise6NothingIsLeftOfThoseBefore() {
        Teller t = Cases.withRule(Cases.FOUR);
        String full = fullText();
        for (int i = 0; i < 6; i++) {
            Cases.due("full", 24, t.roll(full));
            Cases.due("a fault", -1005, t.roll("M;F&0<"));
            if (i % 2 == 0) {
                Cases.due("one", 1, t.roll("M"));
            }
            Cases.due("few", 3, t.roll("F;M;F"));
            Cases.due("men", 2, t.v.count(3));
            Cases.due("wed", 0, t.v.count(4));
            for (int p = 0; p < 3; p++) {
                for (int what = 1; what < 5; what++) {
                    Cases.due("told " + what, -2, t.v.personIs(p, what));
                }
                Cases.due("children", 0, t.v.personIs(p, 5));
                Cases.due("brothers and sisters", 0, t.v.personIs(p, 6));
                Cases.due("may be", 15, t.v.personIs(p, 7));
            }
            Cases.due("houses", 3, t.v.houses(0));
        }
    }

    static void promise6NoneNoRule() {
        Teller t = new Teller();
        t.feed("M!");
        Cases.due("roll(1)", Cases.NONE, t.v.roll(1));
        Cases.due("no fault, too", Cases.NONE, t.v.roll(2));
        Cases.due("the tape stays", 20, t.tape());
        t.empty();
        t.rule("ab/ab");
        Cases.due("with a rule", 1, t.roll("M"));
    }

    static void promise6NoneNoSuchNumber() {
        Teller t = Cases.withRule("ab/ab");
        t.feed("Ma;Fb" + Cases.times("!", 255));
        for (int n : new int[] {0, -1, 241, 260, 261, Integer.MIN_VALUE, Integer.MAX_VALUE}) {
            Cases.due("roll(" + n + ")", Cases.NONE, t.v.roll(n));
        }
        Cases.due("the tape stays", 260, t.tape());
        Cases.due("its bytes, too", 2, t.v.roll(5));
    }

    static void promise6NoneTheTapeHasNotSoMany() {
        Teller t = Cases.withRule("ab/ab");
        Cases.due("an empty tape", Cases.NONE, t.v.roll(1));
        t.feed("M");
        Cases.due("21 of 20", Cases.NONE, t.v.roll(21));
        Cases.due("the tape stays", 20, t.tape());
        Cases.due("20 of 20", -1001, t.v.roll(20));
        Cases.due("empty then", Cases.NONE, t.v.roll(1));
    }
}
