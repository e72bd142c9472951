/** A valley that takes its texts as texts: each is fed to the tape, and then read. */
final class Teller {
    final NamedToWed v = new NamedToWed();

    /** Feeds the bytes of a text, and blanks behind it till there are twenty, forty and so on. */
    int feed(String text) {
        int[] five = new int[5];
        for (int from = 0; from == 0 || from < text.length(); from += 20) {
            for (int i = 0; i < 20; i++) {
                int c = from + i < text.length() ? text.charAt(from + i) : ' ';
                five[i / 4] = five[i / 4] << 8 | c;
            }
            v.feed(five[0], five[1], five[2], five[3], five[4]);
        }
        return text.length();
    }

    int rule(String text) {
        return v.rule(feed(text));
    }

    int roll(String text) {
        return v.roll(feed(text));
    }

    int law(String text) {
        return v.law(feed(text));
    }

    int kin(String text, int sort, int what) {
        return v.kin(feed(text), sort, what);
    }

    int alike(String one, String other, int sort) {
        feed(one + other);
        return v.alike(one.length(), other.length(), sort);
    }

    int allRules(int names, String text, int what) {
        return v.allRules(names, feed(text), what);
    }

    int those(int p, String text) {
        return v.those(p, feed(text));
    }

    int check(int... bytes) {
        StringBuilder text = new StringBuilder();
        for (int b : bytes) {
            text.append((char) b);
        }
        return v.check(feed(text.toString()));
    }

    int tape() {
        return v.count(6);
    }

    /** Empties the tape. */
    void empty() {
        v.check(0);
    }

    String term(int name, int sort, int toName, int toSort) {
        StringBuilder word = new StringBuilder();
        for (int i = 0; i < v.term(name, sort, toName, toSort, 100); i++) {
            word.append((char) v.term(name, sort, toName, toSort, i));
        }
        return word.toString();
    }

    String cousin() {
        StringBuilder word = new StringBuilder();
        for (int i = 0; i < v.cousin(100); i++) {
            word.append((char) v.cousin(i));
        }
        return word.toString();
    }

    String whatIs(int p, int q) {
        StringBuilder word = new StringBuilder();
        for (int i = 0; i < v.whatIs(p, q, 100); i++) {
            word.append((char) v.whatIs(p, q, i));
        }
        return word.toString();
    }
}
