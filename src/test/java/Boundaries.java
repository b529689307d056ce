import java.util.ArrayList;
import java.util.List;
import java.util.function.Supplier;

/** What the tests of boundaries share: how to feed and to ask, and how to see that a refused call changes nothing. */
abstract class Boundaries {
    static final int LEAST = Integer.MIN_VALUE;
    static final int MOST = Integer.MAX_VALUE;
    static final int ANY = 32;
    private static String test = "";
    private static int wrong = 0;

    interface Call {
        long on(OneWord word);
    }

    static void begin(String name) {
        test = name;
    }

    static int howManyWrong() {
        return wrong;
    }

    static void due(String what, long got, long want) {
        if (got != want) {
            wrong++;
            System.out.println(test + ": " + what + ": " + got + ", due is " + want);
        }
    }

    static void due(String what, boolean got, boolean want) {
        due(what, got ? 1 : 0, want ? 1 : 0);
    }

    static int bit(boolean b) {
        return b ? 1 : 0;
    }

    /** Bytes behind the tape, with zeros up to the next twenty. */
    static void tape(OneWord word, int... bytes) {
        for (int from = 0; from == 0 || from < bytes.length; from += 20) {
            int[] five = new int[5];
            for (int i = 0; i < 20 && from + i < bytes.length; i++) {
                five[i / 4] |= bytes[from + i] << 24 - 8 * (i % 4);
            }
            word.feed(five[0], five[1], five[2], five[3], five[4]);
        }
    }

    static int[] row(int n, int each) {
        int[] row = new int[n];
        for (int i = 0; i < n; i++) row[i] = each;
        return row;
    }

    /** A check of no numbers takes the tape and changes nothing else. */
    static void emptyTape(OneWord word) {
        word.check(0, 0);
        due("the tape is empty", word.count(3), 0);
    }

    static int tongue(OneWord word, String text) {
        tape(word, text.chars().toArray());
        return word.tongue(text.length());
    }

    static int sentence(OneWord word, int mouth, int... meanings) {
        tape(word, meanings);
        return word.sentence(mouth, meanings.length);
    }

    /** So many mouths at one place. */
    static OneWord crowd(int mouths) {
        OneWord word = new OneWord();
        for (int i = 0; i < mouths; i++) word.mouth(0, 0, 0);
        return word;
    }

    static OneWord crowd(int mouths, String text) {
        OneWord word = crowd(mouths);
        if (tongue(word, text) < 1) due("the tongue " + text + " is one", 0, 1);
        return word;
    }

    /** Mouths at these x. */
    static OneWord line(int... xs) {
        OneWord word = new OneWord();
        for (int x : xs) word.mouth(x, 0, 0);
        return word;
    }

    /** Eight mouths that speak whenever they are drawn. */
    static OneWord talkers() {
        OneWord word = new OneWord();
        for (int i = 0; i < 8; i++) word.mouth(0, 0, 1000);
        return word;
    }

    static int nextX(int x) {
        return (int) ((25173L * x + 13849) % 65536);
    }

    /** Three mouths with all that a people can have, and forty bytes of tape. */
    static OneWord three() {
        OneWord word = new OneWord();
        word.mouth(0, 0, 500);
        word.mouth(10, -3, 1000);
        word.mouth(-50, 50, 0);
        word.air(100, 7);
        tongue(word, "m1(l=8);mg%4+s+1(g<50);mw+l+e+d(1=1);rf*5+k+a(g>1)");
        sentence(word, 0, 1, 2);
        sentence(word, 1, 3);
        word.say(0, 3);
        word.say(1, 5);
        word.seed(77);
        word.keep();
        word.say(2, 9);
        word.say(0, 9);
        word.say(1, 60);
        word.seed(4711);
        int[] bytes = new int[40];
        for (int i = 0; i < bytes.length; i++) bytes[i] = 1 + i * 7 % 31;
        tape(word, bytes);
        return word;
    }

    static OneWord threeWithoutTape() {
        OneWord word = three();
        emptyTape(word);
        return word;
    }

    static OneWord threeWithShortTape() {
        OneWord word = threeWithoutTape();
        tape(word, row(20, 2));
        return word;
    }

    /** A call that is refused: its answer, and that all else, the tape too, is as on an object that never had it. */
    static void refused(String what, Supplier<OneWord> made, Call call, long want) {
        OneWord word = made.get();
        due(what, call.on(word), want);
        alike(what, word, made.get());
    }

    static void refused(String what, Call call, long want) {
        refused(what, Boundaries::three, call, want);
    }

    /** A call that takes the tape, and changes nothing else. */
    static void takesTheTape(String what, Supplier<OneWord> made, Call call, long want) {
        OneWord word = made.get();
        due(what, call.on(word), want);
        OneWord twin = made.get();
        emptyTape(twin);
        alike(what, word, twin);
    }

    private static void alike(String what, OneWord word, OneWord twin) {
        List<String> asked = new ArrayList<>();
        List<Long> of = everything(word, asked);
        List<Long> ofTwin = everything(twin, new ArrayList<>());
        for (int i = 0; i < of.size() && i < ofTwin.size(); i++) {
            if (!of.get(i).equals(ofTwin.get(i))) {
                due(what + ", behind it " + asked.get(i), of.get(i), ofTwin.get(i));
                return;
            }
        }
        due(what + ", behind it so many answers", of.size(), ofTwin.size());
    }

    /** All that can be asked of an object; it is used up by that (some 250 calls). */
    private static List<Long> everything(OneWord word, List<String> asked) {
        List<Long> all = new ArrayList<>();
        for (int what = -1; what < 53; what++) note(all, asked, "count " + what, word.count(what));
        for (int m = 0; m < 8; m++) note(all, asked, "way of 0 and " + m, word.way(0, m));
        talk(word, all, asked);
        for (int ear = 0; ear < 8; ear++) {
            int last = word.heard(ear) - 1;
            for (int what = 0; what < 4; what++) {
                note(all, asked, "first hearing of " + ear, word.hearing(ear, 0, what));
                note(all, asked, "last hearing of " + ear, word.hearing(ear, last, what));
            }
        }
        for (int gap = 1; gap < 64; gap += 6) {
            note(all, asked, "meaning of " + gap, word.meaning(0, gap, 0, 0, 9));
            note(all, asked, "meaning of " + gap + " by 1", word.meaning(1, gap, 1, 8, 63));
        }
        int bits = (1 << Math.min(4, word.count(0))) - 1;
        note(all, asked, "soonest", word.soonest(bits, -1));
        note(all, asked, "who begins", word.soonest(bits, 100));
        note(all, asked, "its gap", word.soonest(bits, 201));
        for (int what = 0; what < 3; what++) note(all, asked, "by rules", word.byRules(bits, 400, what));
        int bytes = word.count(3);
        note(all, asked, "a table by the tape", word.table(Math.min(12, bytes), 1, -1));
        word.draw(40);
        note(all, asked, "X behind a draw", word.count(4));
        talk(word, all, asked);
        note(all, asked, "undone", bit(word.undo()));
        note(all, asked, "X undone", word.count(4));
        talk(word, all, asked);
        return all;
    }

    private static void talk(OneWord word, List<Long> all, List<String> asked) {
        int size = word.count(1);
        note(all, asked, "sayings", size);
        int[] places = {0, 1, 2, 3, size - 2, size - 1};
        for (int i : places) {
            for (int what = 0; what < 3; what++) note(all, asked, "said " + i + " " + what, word.said(i, what));
        }
    }

    private static void note(List<Long> all, List<String> asked, String what, long answer) {
        all.add(answer);
        asked.add(what);
    }
}
