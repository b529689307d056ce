/** Promise by promise: ordinary calls, the edges that the document names, and wrong calls, with answers reckoned by hand. */
public final class PromisesTest {
    private static final int LEAST = Integer.MIN_VALUE;
    private static final int MOST = Integer.MAX_VALUE;
    private static int wrong = 0;

    public static void main(String[] args) {
        newObject();
        mouth();
        air();
        feed();
        tongueTakesTexts();
        tongueTellsFaults();
        tongueReckons();
        tongueRefuses();
        sentence();
        say();
        heard();
        hearing();
        way();
        meaning();
        read();
        readBehindAHearing();
        missed();
        missedAmongOthers();
        missedWithinRange();
        soonest();
        soonestAmongLikeOnes();
        byRules();
        table();
        alike();
        seed();
        draw();
        drawAtItsEnds();
        keepAndUndo();
        quiet();
        said();
        check();
        count();
        System.out.println(wrong == 0 ? "all promises are kept" : wrong + " answers are not as due");
        if (wrong != 0) System.exit(1);
    }

    private static void due(String what, long got, long want) {
        if (got != want) {
            wrong++;
            System.out.println(what + ": " + got + ", due is " + want);
        }
    }

    private static void due(String what, boolean got, boolean want) {
        due(what, got ? 1 : 0, want ? 1 : 0);
    }

    private static void tape(OneWord word, int... bytes) {
        for (int from = 0; from == 0 || from < bytes.length; from += 20) {
            int[] five = new int[5];
            for (int i = 0; i < 20 && from + i < bytes.length; i++) {
                five[i / 4] |= bytes[from + i] << 24 - 8 * (i % 4);
            }
            word.feed(five[0], five[1], five[2], five[3], five[4]);
        }
    }

    private static int tongue(OneWord word, String text) {
        tape(word, text.chars().toArray());
        return word.tongue(text.length());
    }

    private static void words(OneWord word, int mouth, int... meanings) {
        tape(word, meanings);
        due("the sentence of " + mouth, word.sentence(mouth, meanings.length), meanings.length);
    }

    /** So many mouths at one place, each wanting to speak by so many thousandths. */
    private static OneWord crowd(int mouths, int thousandths) {
        OneWord word = new OneWord();
        for (int i = 0; i < mouths; i++) word.mouth(0, 0, thousandths);
        return word;
    }

    private static void newObject() {
        OneWord word = new OneWord();
        int[] begins = {0, 0, 0, 0, 1, 200, 100};
        for (int what = 0; what < begins.length; what++) due("new: count " + what, word.count(what), begins[what]);
        due("new: nothing kept", word.undo(), false);
        due("new: no mouth", word.way(0, 0), -1);
        due("NONE", OneWord.NONE, -1);
        OneWord other = new OneWord();
        word.mouth(1, 1, 1);
        word.air(5, 5);
        word.feed(0, 0, 0, 0, 0);
        due("objects are apart: mouths", other.count(0), 0);
        due("objects are apart: air", other.count(5), 200);
        due("objects are apart: tape", other.count(3), 0);
    }

    private static void mouth() {
        OneWord word = new OneWord();
        int[][] bad = {{-51, 0, 0}, {51, 0, 0}, {0, -51, 0}, {0, 51, 0}, {0, 0, -1}, {0, 0, 1001}, {LEAST, 0, 0}, {0, MOST, 0}, {0, 0, MOST}};
        for (int[] b : bad) due("no such mouth", word.mouth(b[0], b[1], b[2]), -1);
        due("no mouth came of it", word.count(0), 0);
        due("a corner", word.mouth(-50, -50, 0), 0);
        due("the other", word.mouth(50, 50, 1000), 1);
        for (int i = 2; i < 8; i++) due("mouth " + i, word.mouth(i, i, i), i);
        due("a ninth", word.mouth(0, 0, 0), -1);
        due("eight are there", word.count(0), 8);
        due("from corner to corner", word.way(0, 1), 200);
    }

    private static void air() {
        OneWord word = crowd(1, 0);
        int[][] bad = {{-1, 1}, {201, 1}, {0, 0}, {0, 101}, {LEAST, 1}, {0, LEAST}, {MOST, MOST}};
        for (int[] b : bad) due("no such air", word.air(b[0], b[1]), false);
        due("RANGE stays", word.count(5), 200);
        due("SPEED stays", word.count(6), 100);
        due("the least air", word.air(0, 1), true);
        due("RANGE 0", word.count(5), 0);
        due("SPEED 1", word.count(6), 1);
        due("the most air", word.air(200, 100), true);
    }

    private static void feed() {
        OneWord word = crowd(1, 0);
        due("twenty bytes", word.feed(0x01020304, 0, 0, 0, 0), 20);
        word.sentence(0, 4);
        for (int i = 0; i < 4; i++) due("highest byte first", word.count(20 + i), i + 1);
        for (int i = 1; i <= 11; i++) due("feed " + i, word.feed(-1, 0, 0, 0, 0x1f), 20 * i);
        due("a twelfth", word.feed(0, 0, 0, 0, 0), -1);
        due("220 stay", word.count(3), 220);
        due("none but the first bytes are taken", word.check(0, 0), -1);
        due("empty then", word.count(3), 0);
        word.feed(0, 0, 0, 0, 0x01000000);
        word.feed(0x02000000, 0, 0, 0, 0);
        due("behind the tape", word.table(12, 1, -1), 0);
    }

    private static void tongueTakesTexts() {
        OneWord word = crowd(1, 0);
        due("no tape yet", word.tongue(1), -1);
        tape(word, 'm', '1', '(', '1', '=', '1', ')');
        due("n 0", word.tongue(0), -1);
        due("n -1", word.tongue(-1), -1);
        due("more than the tape has", word.tongue(21), -1);
        due("more than may be", word.tongue(201), -1);
        due("the tape stays", word.count(3), 20);
        due("one clause", word.tongue(7), 1);
        due("the tape is empty", word.count(3), 0);
        due("clauses", word.count(2), 1);
        due("in place of the one before", tongue(word, "m2(1=1);m3(1=1)"), 2);
        due("the new one", word.meaning(0, 1, 0, 8, 63), 2);
        due("a fault", tongue(word, "m4(1=1);x"), -1008);
        due("the tape is empty behind a fault", word.count(3), 0);
        due("the text before stays", word.meaning(0, 1, 0, 8, 63), 2);
        due("its clauses, too", word.count(2), 2);
        StringBuilder most = new StringBuilder("m0(1=1");
        for (int i = 0; i < 48; i++) most.append("|g=2");
        due("a text of 199", tongue(word, most + ")"), 1);
        due("it is read to its end", word.meaning(0, 2, 0, 8, 63), 0);
        due("a text of 200", tongue(word, most.toString().replace("m0", "m09") + ")"), 1);
        due("it means", word.meaning(0, 2, 0, 8, 63), 9);
        tape(word, (most.toString().replace("m0", "m009") + ")").chars().toArray());
        due("a text of 201", word.tongue(201), -1);
        due("stays on the tape", word.count(3), 220);
        word.check(0, 0);
        due("fourteen clauses", tongue(word, "m1(1=1)" + ";r1(1=1)".repeat(13)), 14);
        due("count of them", word.count(2), 14);
        due("the last of fourteen", tongue(word, "m1(g=1);".repeat(13) + "m14(g=7)"), 14);
        due("means", word.meaning(0, 7, 0, 8, 63), 14);
        due("another", tongue(word, "m3(1=1)"), 1);
        due("and another", tongue(word, "m4(g=1)"), 1);
        due("nothing is left of those before", word.meaning(0, 7, 0, 8, 63), 0);
        due("six open in E, then six in C", tongue(word, "m[[[[[[1]]]]]]((((((g=1))))))"), 1);
        due("six ! and (", tongue(word, "m1(!(!(!g=1)))"), 1);
        due("( and five !, twice", tongue(word, "m1(!!!!!g=1&!!!!!g=1)"), 1);
        due("[ in !, and a ! is open no longer than its piece", tongue(word, "m1(!!!![1]=[1]&[[[[[1]]]]]=1)"), 1);
        due("all letters", tongue(word, "mg+w+l+p+s+d+e+k+a+f(g=1)"), 1);
        due("numbers of five digits", tongue(word, "m00000(99999>1)"), 1);
    }

    private static void fault(String text, int number, int place) {
        due("the fault of " + text, tongue(new OneWord(), text), -1000 * number - place);
    }

    private static void tongueTellsFaults() {
        fault("q", 1, 0);
        fault("M1(1=1)", 1, 0);
        fault("m", 1, 1);
        fault("m ", 1, 1);
        fault("m+1(1=1)", 1, 1);
        fault("m-1(1=1)", 1, 1);
        fault("m()", 1, 1);
        fault("m1", 1, 2);
        fault("m1;", 1, 2);
        fault("m1(", 1, 3);
        fault("m1()", 1, 3);
        fault("m1(g)", 1, 4);
        fault("m1(g=)", 1, 5);
        fault("m1(g=1", 1, 6);
        fault("m1(g=1=1)", 1, 6);
        fault("m1(g==1)", 1, 5);
        fault("m1(g=1&)", 1, 7);
        fault("m1(g=1|)", 1, 7);
        fault("m1(g=1&&g=1)", 1, 7);
        fault("m1((g)=1)", 1, 5);
        fault("m1((g=1)=1)", 1, 8);
        fault("m1([g=1])", 1, 5);
        fault("m1([g)=1)", 1, 5);
        fault("m1(g=1]", 1, 6);
        fault("m1(!)", 1, 4);
        fault("m1(g=!1)", 1, 5);
        fault("m1(g=(1))", 1, 5);
        fault("m1+(1=1)", 1, 3);
        fault("m1*(1=1)", 1, 3);
        fault("m11g(1=1)", 1, 3);
        fault("mgg(1=1)", 1, 2);
        fault("mm(1=1)", 1, 1);
        fault("mr(1=1)", 1, 1);
        fault("mb(1=1)", 1, 1);
        fault("m1(1=1);", 1, 8);
        fault("m1(1=1);;", 1, 8);
        fault("m1(1=1))", 1, 7);
        fault("m1(1=1)m", 1, 7);
        fault("m1(1 =1)", 1, 4);
        fault("m\u00ff(1=1)", 1, 1);
        fault("m\u0000(1=1)", 1, 1);
        fault("m123456(1=1)", 2, 6);
        fault("m1(000000=1)", 2, 8);
        fault("m1(1=1234567)", 2, 10);
        fault("m[[[[[[[1", 5, 7);
        fault("m1(((((((", 5, 8);
        fault("m1(!!!!!!", 5, 8);
        fault("m1([[[[[[", 5, 8);
        fault("m1(!(!(!(g=1", 5, 8);
        fault("m1((!((([1]=1))))", 5, 8);
        fault("m1(!!!![1]=[[1", 5, 12);
        fault("m1(((((!g=1&(", 1, 13);
        fault("m1(((((!g=1&((g", 5, 13);
        String fourteen = "m1(1=1);".repeat(14);
        fault(fourteen, 1, 112);
        fault(fourteen + "m", 4, 112);
        fault(fourteen + "r1(1=1)", 4, 112);
        fault(fourteen + "x", 1, 112);
        fault(fourteen + ";", 1, 112);
    }

    private static void value(String clauses, int gap, int want) {
        OneWord word = crowd(2, 0);
        tongue(word, clauses);
        due("what " + clauses + " means at " + gap, word.meaning(0, gap, 0, 1, 7), want);
    }

    private static void tongueReckons() {
        value("m1+2*3(1=1)", 1, 7);
        value("m[1+2]*3(1=1)", 1, 9);
        value("m20-5-3(1=1)", 1, 12);
        value("m60/4/3(1=1)", 1, 5);
        value("m17%5*3(1=1)", 1, 6);
        value("m20-17%5*3(1=1)", 1, 14);
        value("m20+[0-7]/2(1=1)", 1, 17);
        value("m20+[0-7]%4(1=1)", 1, 17);
        value("m0-1(1=1)", 1, 0);
        value("m32(1=1)", 1, 31);
        value("mg(1=1)", 63, 31);
        value("m99999*99999(1=1)", 1, 31);
        value("m65536*32768(1=1)", 1, 0);
        value("m65536*65536+5(1=1)", 1, 5);
        value("m99999*42951(1=1)", 1, 31);
        value("m[0-65536*32768]/[0-1](1=1)", 1, 0);
        value("m3+[0-65536*32768]%[0-1](1=1)", 1, 3);
        value("m1(g=2);m2(g<5);m3(1=1)", 2, 1);
        value("m1(g=2);m2(g<5);m3(1=1)", 3, 2);
        value("m1(g=2);m2(g<5);m3(1=1)", 5, 3);
        value("m1(g=2);m2(g>9)", 5, 0);
        value("r9(1=1)", 5, 0);
        value("r9(1=1);m4(1=1)", 5, 4);
        value("m1(!g=5)", 5, 0);
        value("m1(!!g=5)", 5, 1);
        value("m1(g=4|g=5&w=1)", 4, 1);
        value("m1(g=4|g=5&w=1)", 5, 0);
        value("m1((g=4|g=5)&w=1)", 4, 0);
        value("m1((g=4|g=5)&w=0)", 5, 1);
        value("m1(!g=4&g<6)", 5, 1);
        value("m1(!(g=4|g=5))", 5, 0);
        value("m1(g>4)", 4, 0);
        value("m1(g<4)", 4, 0);
        value("m1(0-1<0)", 4, 1);
        value("m5+k+a+f(k=0&a=0&f=0)", 1, 5);
        value("mw+l*2+p+s(1=1)", 1, 9);
    }

    private static void tongueRefuses() {
        value("m5/0(1=1)", 1, 0);
        value("m5%0(1=1)", 1, 0);
        value("m5+1/0(1=1)", 1, 0);
        value("m5+0*[1/0](1=1);m6(1=1)", 1, 0);
        value("m5(1/0=0);m6(1=1)", 1, 6);
        value("m5(!1/0=0);m6(1=1)", 1, 6);
        value("m5(1/0=0|1=1);m6(1=1)", 1, 6);
        value("m5((1%0=0)|1=1);m6(1=1)", 1, 6);
        value("m5(!(1/0=0)|1=1);m6(1=1)", 1, 6);
        value("m5(1=1|1/0=0);m6(1=1)", 1, 5);
        value("m5(!(1=2&1/0=0));m6(1=1)", 1, 5);
        value("m5(1=2&1/0=0|1=1);m6(1=1)", 1, 5);
        value("m5(1=1&1/0=0|1=1);m6(1=1)", 1, 6);
        value("m5((1=1|1/0=1)&(1=2&1%0=1|2=2));m6(1=1)", 1, 5);
        value("m5(0=1/0);m6(1=1)", 1, 6);
        value("m1(g=1);m5/0(1=1)", 1, 1);
        value("m9(g=9);m1(g=1);m5/0(1=1)", 1, 1);
        value("m5/[g-4](1=1)", 4, 0);
        value("m5/[g-4](1=1)", 5, 5);
    }

    private static void sentence() {
        OneWord word = crowd(2, 0);
        due("the tape has none", word.sentence(0, 1), -1);
        due("none at all", word.sentence(0, 0), 0);
        tape(word, 1, 31, 5, 7, 9);
        due("no such mouth", word.sentence(2, 1), -1);
        due("nor that", word.sentence(-1, 1), -1);
        due("no such n", word.sentence(0, 5), -1);
        due("nor that one", word.sentence(0, -1), -1);
        due("the tape stays", word.count(3), 20);
        due("four", word.sentence(0, 4), 4);
        due("the tape is empty", word.count(3), 0);
        int[] want = {1, 31, 5, 7};
        for (int i = 0; i < 4; i++) due("meaning " + i, word.count(20 + i), want[i]);
        tape(word, 2, 0);
        due("0 is no meaning", word.sentence(0, 2), -2);
        due("the tape is empty behind it", word.count(3), 0);
        tape(word, 2, 32);
        due("32 is no meaning", word.sentence(0, 2), -2);
        tape(word, 255);
        due("255 is none", word.sentence(0, 1), -2);
        due("the one before stays", word.count(10), 4);
        due("with its meanings", word.count(20), 1);
        tape(word, 6, 0);
        due("a shorter one", word.sentence(0, 1), 1);
        due("is all there is", word.count(21), -1);
        tape(word, 0);
        due("an empty one", word.sentence(0, 0), 0);
        due("takes the tape, too", word.count(3), 0);
        due("and is empty", word.count(10), 0);
    }

    private static void say() {
        OneWord word = crowd(2, 0);
        int[][] bad = {{2, 0}, {-1, 0}, {0, -1}, {0, 10000}, {LEAST, 0}, {0, MOST}};
        for (int[] b : bad) due("no such saying", word.say(b[0], b[1]), -1);
        due("the first", word.say(1, 0), 1);
        due("another mouth in the same breath", word.say(0, 0), 2);
        due("the same mouth again", word.say(0, 0), 3);
        due("later", word.say(0, 7), 4);
        due("ahead of the last", word.say(0, 6), -1);
        for (int i = 5; i <= 150; i++) due("saying " + i, word.say(1, 9999), i);
        due("a 151st", word.say(1, 9999), -1);
        due("150 are", word.count(1), 150);
    }

    private static void heard() {
        OneWord word = new OneWord();
        due("no ear", word.heard(0), -1);
        word.mouth(0, 0, 0);
        word.mouth(3, 4, 0);
        word.mouth(0, 0, 0);
        due("nothing yet", word.heard(0), 0);
        due("nobody", word.heard(3), -1);
        due("nobody at all", word.heard(-1), -1);
        word.say(0, 1);
        word.say(0, 1);
        due("twice from one mouth: once", word.heard(0), 1);
        word.say(2, 1);
        due("two at once", word.heard(0), 1);
        due("of like ways the lowest mouth, were it not the ear's own", word.hearing(2, 0, 1), 0);
        word.air(7, 1);
        word.say(1, 9);
        due("as far as RANGE", word.heard(0), 2);
        word.air(6, 1);
        due("and no farther", word.heard(0), 1);
        due("its own always", word.heard(1), 1);
        word.air(7, 7);
        due("the way through SPEED", word.hearing(0, 1, 0), 10);
        word.air(7, 8);
        due("rounded down", word.hearing(0, 1, 0), 9);
    }

    private static void hearing() {
        OneWord word = new OneWord();
        word.mouth(0, 0, 0);
        word.mouth(20, 0, 0);
        word.mouth(-2, 0, 0);
        word.air(200, 2);
        tongue(word, "m30(g=63);mg+l*4+p/10(1=1)");
        word.say(1, 0);
        word.say(0, 5);
        word.say(2, 9);
        word.say(0, 10);
        word.say(0, 100);
        int[][] want = {{5, 0, 63}, {10, 0, 5}, {100, 0, 63}};
        due("ear 0 hears", word.heard(0), 3);
        for (int i = 0; i < 3; i++) {
            for (int what = 0; what < 3; what++) {
                due("hearing " + i + " " + what, word.hearing(0, i, what), want[i][what]);
            }
        }
        due("the first means", word.hearing(0, 0, 3), 30);
        due("the second, by the first's gap", word.hearing(0, 1, 3), 5 + 6);
        due("63 at most", word.hearing(0, 2, 3), 30);
        int[][] two = {{6, 0}, {9, 2}, {11, 0}, {101, 0}};
        due("ear 2 hears", word.heard(2), 4);
        for (int i = 0; i < 4; i++) {
            due("ear 2, breath " + i, word.hearing(2, i, 0), two[i][0]);
            due("ear 2, who " + i, word.hearing(2, i, 1), two[i][1]);
        }
        due("who was heard ahead, and its gap", word.hearing(2, 2, 3), 2 + 2 * 4);
        int[][] bad = {{0, 3, 0}, {0, 3, 1}, {0, 3, 2}, {0, 3, 3}, {0, -1, 2}, {0, -1, 0}, {3, 0, 0}, {-1, 0, 0}, {0, 0, 4}, {0, 0, -1}, {0, MOST, 0}, {0, LEAST, 3}};
        for (int[] b : bad) due("no such hearing", word.hearing(b[0], b[1], b[2]), -1);
        word.quiet();
        word.say(1, 3);
        word.say(2, 12);
        due("the nearer of two at once", word.heard(0), 1);
        due("is heard", word.hearing(0, 0, 1), 2);
        word.quiet();
        word.say(1, 0);
        word.say(2, 1);
        word.say(0, 4);
        int[][] late = {{2, 2}, {4, 0}, {10, 1}};
        for (int i = 0; i < 3; i++) {
            due("what is said first may be heard last, " + i, word.hearing(0, i, 0), late[i][0]);
            due("by whom, " + i, word.hearing(0, i, 1), late[i][1]);
        }
        word.quiet();
        word.say(0, 0);
        word.say(0, 62);
        word.say(0, 125);
        word.say(0, 189);
        int[] gaps = {63, 62, 63, 63};
        for (int i = 0; i < 4; i++) due("gap " + i, word.hearing(0, i, 2), gaps[i]);
        word.quiet();
        word.say(1, 9999);
        word.air(200, 1);
        due("beyond the last breath of sayings", word.hearing(0, 0, 0), 10019);
    }

    private static void way() {
        OneWord word = new OneWord();
        word.mouth(-50, 3, 0);
        word.mouth(50, -4, 0);
        due("differences together", word.way(0, 1), 107);
        due("the same back", word.way(1, 0), 107);
        due("to itself", word.way(1, 1), 0);
        due("no such ones", word.way(0, 2), -1);
        due("no such ones", word.way(2, 0), -1);
        due("no such ones", word.way(-1, 0), -1);
        due("no such ones", word.way(0, LEAST), -1);
    }

    private static void meaning() {
        OneWord word = new OneWord();
        word.mouth(0, 0, 0);
        word.mouth(4, 5, 0);
        due("no tongue: 0", word.meaning(0, 1, 0, 8, 63), 0);
        tongue(word, "md+e*10(w=0);md+l+p/8(s=0);m1+d(1=1)");
        due("its own", word.meaning(0, 1, 0, 8, 63), 0);
        due("the way and the ear", word.meaning(1, 1, 0, 8, 63), 19);
        due("who ahead and its gap", word.meaning(0, 1, 1, 8, 63), 24);
        due("who ahead need not be there", word.meaning(0, 63, 1, 7, 0), 16);
        due("the same again", word.meaning(0, 63, 1, 1, 0), 10);
        word.air(0, 1);
        due("no RANGE is asked", word.meaning(0, 63, 1, 1, 0), 10);
        int[][] bad = {{2, 1, 0, 0, 0}, {-1, 1, 0, 0, 0}, {0, 0, 0, 0, 0}, {0, 64, 0, 0, 0}, {0, 1, 2, 0, 0}, {0, 1, -1, 0, 0},
            {0, 1, 0, -1, 0}, {0, 1, 0, 9, 0}, {0, 1, 0, 0, -1}, {0, 1, 0, 0, 64}};
        for (int[] b : bad) due("no such meaning", word.meaning(b[0], b[1], b[2], b[3], b[4]), -1);
    }

    private static long read(OneWord word, int ear, int what, int... pairs) {
        tape(word, pairs);
        return word.read(ear, pairs.length / 2, what);
    }

    private static void read() {
        OneWord word = crowd(8, 0);
        int[] any = new int[24];
        for (int i = 0; i < 24; i++) any[i] = i % 2 == 0 ? 63 : 32;
        due("all rows of twelve", read(word, 0, -1, any), 68719476736L);
        due("everybody may have said the last", read(word, 0, 11, any), 255);
        due("without a tongue all mean 0", read(word, 0, -1, 5, 0), 8);
        due("and nothing else", read(word, 0, -1, 5, 1), 0);
        tongue(word, "m1(l=8);mw+1(w=l+1);mg(w=l)");
        due("the same again, or 2 behind 1", read(word, 0, -1, 3, 1, 3, 32, 3, 3), 8 * (8 + 1));
        due("only that far back", read(word, 0, 0, 1, 1, 1, 4, 1, 5), 4);
        due("and there", read(word, 0, 1, 1, 1, 1, 4, 1, 5), 8);
        due("one row", read(word, 0, -1, 1, 1, 1, 4, 1, 5), 1);
        due("who might begin but not go on is not told", read(word, 0, 0, 1, 1, 1, 8), 64);
        due("none: nobody", read(word, 0, 0, 1, 1, 1, 9), 0);
        word = new OneWord();
        word.mouth(0, 0, 0);
        word.mouth(5, 0, 0);
        word.mouth(6, 0, 0);
        word.air(5, 1);
        due("within RANGE", read(word, 0, 0, 1, 32), 3);
        due("of the ear", read(word, 2, 0, 1, 32), 6);
        due("a GAP of 0", read(word, 0, 0, 0, 32), -2);
        due("a GAP of 64", read(word, 0, 0, 1, 32, 64, 1), -2);
        due("a MEANING of 33", read(word, 0, 0, 1, 33), -2);
        due("the tape is empty", word.count(3), 0);
        tape(word, new int[24]);
        int[][] bad = {{3, 1, 0}, {-1, 1, 0}, {0, 0, -1}, {0, 13, 0}, {0, 1, 1}, {0, 1, -2}, {0, 12, 12}, {0, MOST, 0}, {0, LEAST, -1}};
        for (int[] b : bad) due("no such read", word.read(b[0], b[1], b[2]), -1);
        due("the tape stays", word.count(3), 40);
        word.check(0, 0);
        tape(word, new int[20]);
        due("not so many", word.read(0, 11, 0), -1);
        due("the tape stays", word.count(3), 20);
        due("but for ten", word.read(0, 10, 0), -2);
    }

    private static void readBehindAHearing() {
        OneWord word = new OneWord();
        word.mouth(0, 0, 0);
        word.mouth(1, 0, 0);
        tongue(word, "mp(s=1);ml(1=1)");
        word.say(0, 10);
        word.say(1, 30);
        due("the last hearing's gap", read(word, 0, 0, 5, 20), 2);
        due("who spoke in it", read(word, 0, 0, 5, 1), 1);
        due("then the told gap", read(word, 0, 1, 5, 20, 7, 5), 2);
        word.air(0, 1);
        due("what this ear heard last", read(word, 0, 0, 5, 31), 1);
    }

    private static int missed(OneWord word, int ear, int mouth, int what, int... bytes) {
        tape(word, bytes);
        return word.missed(ear, mouth, bytes.length / 2, what);
    }

    private static void missed() {
        OneWord word = crowd(3, 0);
        tongue(word, "mg+w*10(1=1)");
        due("one split means that", missed(word, 0, 0, -1, 7, 14, 3), 1);
        due("the gap", missed(word, 0, 0, 0, 7, 14, 3), 0);
        due("where", missed(word, 0, 0, 1, 7, 14, 3), 4);
        due("who", missed(word, 0, 0, 2, 7, 14, 3), 1);
        due("all ways", missed(word, 0, 0, -1, 7, 32, 32), 18);
        due("the first of them", missed(word, 0, 0, 2, 7, 32, 32), 0);
        due("a gap of one can't be two", missed(word, 0, 0, -1, 1, 32, 32), 0);
        due("so there is no gap", missed(word, 0, 0, 0, 1, 32, 32), -3);
        due("a gap of two can", missed(word, 0, 0, -1, 2, 32, 1), 3);
        due("the most", missed(word, 0, 0, -1, 63, 63, 63, 63, 63, 63, 63, 63, 63, 63,
            32, 32, 32, 32, 32, 32, 32, 32, 32, 32, 32), 10 * 62 * 3);
        due("in the second gap", missed(word, 0, 1, -1, 4, 6, 14, 2, 14), 1);
        due("there", missed(word, 0, 1, 0, 4, 6, 14, 2, 14), 1);
        due("two breaths in", missed(word, 0, 1, 1, 4, 6, 14, 2, 14), 2);
        due("by 0", missed(word, 0, 1, 2, 4, 6, 14, 2, 14), 0);
        due("GAP 0", missed(word, 0, 0, -1, 0, 32, 32), -2);
        due("GAP 64", missed(word, 0, 0, -1, 64, 32, 32), -2);
        due("MEANING 33, the last", missed(word, 0, 0, -1, 5, 32, 33), -2);
        due("the tape is empty", word.count(3), 0);
        tape(word, new int[20]);
        int[][] bad = {{3, 0, 1, -1}, {-1, 0, 1, -1}, {0, 3, 1, -1}, {0, -1, 1, 0}, {0, 0, 0, 0}, {0, 0, 11, 0}, {0, 0, 1, 3}, {0, 0, 1, -2},
            {0, 0, 10, 0}, {0, 0, MOST, 0}};
        for (int[] b : bad) due("no such missing", word.missed(b[0], b[1], b[2], b[3]), -1);
        due("the tape stays", word.count(3), 20);
        due("nineteen bytes are enough", word.missed(0, 0, 9, 0), -2);
        tape(word, new int[40]);
        due("eleven are too many", word.missed(0, 0, 11, -1), -1);
        due("ten are not", word.missed(0, 0, 10, -1), -2);
    }

    private static void missedAmongOthers() {
        OneWord word = new OneWord();
        word.mouth(0, 0, 0);
        word.mouth(5, 0, 0);
        word.mouth(9, 0, 0);
        word.air(5, 1);
        tape(word, 5, 32, 32);
        due("the told mouth is within RANGE", word.missed(0, 2, 1, -1), -1);
        due("the tape stays", word.count(3), 20);
        due("at RANGE it is", word.missed(0, 1, 1, -1), 4 * 2);
        tongue(word, "mp(1=1)");
        word.say(0, 0);
        word.say(0, 17);
        due("behind the last hearing", missed(word, 0, 0, -1, 3, 17, 1), 2);
        due("not behind the one before", missed(word, 0, 0, -1, 3, 31, 1), 0);
        due("the gap behind hears of the split", missed(word, 0, 0, 1, 9, 4, 17, 32, 2), 7);
        due("those ahead must mean it, too", missed(word, 0, 0, -1, 4, 9, 16, 32, 32), 0);
        due("two gaps on nothing has changed", missed(word, 0, 0, -1, 3, 1, 1, 1, 32, 32, 32, 1, 1), 2 * 2);
        due("but must be as told", missed(word, 0, 0, -1, 3, 1, 1, 1, 32, 32, 32, 1, 2), 0);
        due("there, too", missed(word, 0, 0, -1, 3, 1, 1, 1, 32, 32, 32, 2, 1), 0);
        due("by the gap ahead", missed(word, 0, 0, -1, 3, 1, 9, 1, 32, 32, 32, 1, 9), 2 * 2);
        due("three gaps do", missed(word, 0, 0, -1, 3, 1, 1, 32, 32, 32, 2), 0);
        tongue(word, "mg+p*0(1=1)");
        due("the gap behind the split is its own", missed(word, 0, 0, -1, 3, 4, 5, 32, 32, 4, 32), 2 * 2 + 1 * 2);
        tongue(word, "ml+1(1=1)");
        due("who was missed is who was heard ahead", missed(word, 0, 1, 2, 3, 32, 2), 1);
        due("all others by the told mouth", missed(word, 0, 1, -1, 3, 3, 1, 32, 1), 2 * 1);
    }

    private static void missedWithinRange() {
        OneWord word = new OneWord();
        word.mouth(-9, 0, 0);
        word.mouth(0, 0, 0);
        word.mouth(5, 0, 0);
        word.mouth(9, 0, 0);
        word.air(0, 1);
        due("nobody but the ear itself", missed(word, 1, 1, -1, 3, 32, 0), 2);
        due("so that is who", missed(word, 1, 1, 2, 3, 32, 0), 1);
        word.air(4, 1);
        due("a place short of the next one", missed(word, 1, 1, -1, 3, 32, 0), 2);
        word.air(5, 1);
        due("as far as RANGE", missed(word, 1, 1, -1, 3, 32, 0), 2 * 2);
        due("of the ear, not of the told mouth", missed(word, 1, 2, -1, 3, 32, 0), 2 * 2);
        due("of each ear its own", missed(word, 2, 1, -1, 3, 32, 0), 2 * 3);
        due("in each gap of a row", missed(word, 1, 1, -1, 3, 1, 4, 32, 32, 32, 32), 2 * 2 + 3 * 2);
        tongue(word, "mw(1=1)");
        due("not even if it alone means what was told", missed(word, 1, 1, -1, 3, 3, 1), 0);
        due("then there is no first", missed(word, 1, 1, 0, 3, 3, 1), -3);
        due("what is in RANGE and means it is the first", missed(word, 1, 1, 2, 3, 2, 1), 2);
        tongue(word, "ml(1=1)");
        due("nor if it alone lets the next one mean it", missed(word, 1, 1, 2, 3, 8, 3), -3);
        word.air(9, 1);
        due("till RANGE is as far", missed(word, 1, 1, 2, 3, 8, 3), 3);
        due("then all are asked, the lowest first", missed(word, 1, 1, 2, 3, 8, 32), 0);
        due("so many", missed(word, 1, 1, -1, 3, 8, 32), 2 * 4);
    }

    private static void soonest() {
        OneWord word = crowd(5, 0);
        tongue(word, "m7(g=63);mg(1=1)");
        words(word, 0, 7, 4);
        words(word, 1, 2);
        due("breaths", word.soonest(3, -1), 6);
        int[] who = {0, 0, 1};
        int[] gaps = {63, 4, 2};
        for (int i = 0; i < 3; i++) {
            due("who " + i, word.soonest(3, 100 + i), who[i]);
            due("gap " + i, word.soonest(3, 200 + i), gaps[i]);
        }
        due("no such saying", word.soonest(3, 103), -3);
        due("no such saying", word.soonest(3, 203), -3);
        int[] bad = {-2, 0, 99, 199, 300, MOST, LEAST};
        for (int what : bad) due("no such question " + what, word.soonest(3, what), -3);
        due("it can't be", word.soonest(2, -1), -2);
        due("so there is no row", word.soonest(2, 100), -2);
        due("nor gaps", word.soonest(2, 200), -2);
        int[] badBits = {0, 32, -1, 31, 256, LEAST};
        for (int bits : badBits) due("no such mouths " + bits, word.soonest(bits, -1), -3);
        due("four of them", word.soonest(15, -1), 6);
        due("nothing to say", word.soonest(4 + 8, -1), 0);
        due("no row then", word.soonest(4 + 8, 100), -3);
        words(word, 0, 7, 21);
        due("a gap of 21 can't be", word.soonest(1, -1), -2);
        words(word, 0, 7, 20);
        due("one of 20 can", word.soonest(1, -1), 20);
        due("and is told", word.soonest(1, 201), 20);
        tongue(word, "m7(g=63&p=63&l=8&s=0&d=0&e=w);m20(l=0&p=63&s=1&g=3)");
        word.air(0, 1);
        due("the tongue is asked anew", word.soonest(1, -1), 3);
        due("the only gap that means it", word.soonest(1, 201), 3);
        tongue(word, "m1(1=1)");
        for (int i = 0; i < 4; i++) words(word, i, 1, 1, 1, 1);
        due("sixteen words", word.soonest(15, -1), 15);
        for (int i = 0; i < 16; i++) {
            due("in the least row " + i, word.soonest(15, 100 + i), i / 4);
            due("each in a breath " + i, word.soonest(15, 200 + i), i == 0 ? 63 : 1);
        }
        words(word, 3, 1, 1, 1, 2);
        due("but not that one", word.soonest(15, -1), -2);
    }

    private static void soonestAmongLikeOnes() {
        OneWord word = crowd(2, 0);
        // four breaths by gaps 2 and 2, or by 1 and 3
        tongue(word, "m1(g=63);m3(p=2&g=2);m3(p=1&g=3);m2(g<3)");
        words(word, 0, 1, 2, 3);
        due("two ways of four breaths", word.soonest(1, -1), 4);
        due("of like rows the least gaps", word.soonest(1, 201), 1);
        due("and what then follows", word.soonest(1, 202), 3);
        // 0 means 3 behind a gap of 2 alone: four breaths by 0 0 0 1, by 0 0 1 0 or by 0 1 0 0
        tongue(word, "m1(g=63);m3(w=0&p=2&g=1);m2(g<3)");
        words(word, 0, 1, 2, 3);
        words(word, 1, 2);
        due("in any order", word.soonest(3, -1), 4);
        int[] who = {0, 0, 0, 1};
        int[] gaps = {63, 2, 1, 1};
        for (int i = 0; i < 4; i++) {
            due("who " + i, word.soonest(3, 100 + i), who[i]);
            due("gap " + i, word.soonest(3, 200 + i), gaps[i]);
        }
        // all in three breaths either by 0 0 1 with gaps 2 1 or by 0 1 0 with gaps 1 2: who speaks comes ahead of the gaps
        tongue(word, "m1(g=63);m2(w=0&l=0&g=2);m3(w=1&l=0&p=2&g=1);m3(w=1&l=0&p=63&g=1);m2(w=0&l=1&g=2)");
        words(word, 0, 1, 2);
        words(word, 1, 3);
        due("three breaths", word.soonest(3, -1), 3);
        due("the lower speaker first", word.soonest(3, 101), 0);
        due("though by a longer gap", word.soonest(3, 201), 2);
        // the higher mouth begins if only so it can be
        tongue(word, "m3(g=63);m1(g=2);m2(g=5)");
        due("mouth 1 begins", word.soonest(3, 100), 1);
        due("then 0", word.soonest(3, 101), 0);
        due("seven breaths", word.soonest(3, -1), 7);
    }

    private static void byRules() {
        OneWord word = crowd(3, 0);
        tongue(word, "m7(g=63);mg(1=1);rf*2+k(f=1)");
        words(word, 0, 7, 4);
        words(word, 1, 2);
        words(word, 2, 3);
        due("each as it fits: at 0, 2, 5 and 9", word.byRules(7, 100, 0), 9);
        due("all are said", word.byRules(7, 100, 1), 4);
        due("by so many sayings", word.byRules(7, 100, 2), 4);
        due("too few breaths", word.byRules(7, 9, 0), -2);
        due("those that were said", word.byRules(7, 9, 1), 3);
        due("enough", word.byRules(7, 10, 0), 9);
        tongue(word, "m7(g=63);mg(1=1);r1(w=1);r1(w=0)");
        due("of like ones the lowest, right or wrong", word.byRules(3, 10, 2), 10);
        due("it means its first", word.byRules(3, 10, 1), 1);
        tongue(word, "m7(g=63);mg(1=1);r0(g=62);r1000(1=1)");
        due("above 0 only", word.byRules(1, 1, 2), 1);
        tongue(word, "m7(g=63);mg(1=1);r5(g=63&l=8);r5(g=63&l=0&p=63)");
        words(word, 0, 7, 7, 7);
        due("63 at most", word.byRules(1, 400, 0), 126);
        due("not in 126 breaths", word.byRules(1, 126, 0), -2);
        due("in 127", word.byRules(1, 127, 0), 126);
        tongue(word, "m1(1=1);r9(w=0&g<63);ra(w=1);r2000(w=2)");
        words(word, 0, 1);
        words(word, 1, 1);
        words(word, 2, 1, 1);
        due("bounds and what is next", word.byRules(7, 9, 1), 4);
        due("the last one", word.byRules(7, 9, 0), 3);
        tongue(word, "m1(1=1);r1000(w=0);r1001(w=1)");
        words(word, 1, 2);
        due("beyond its bound the bound: like ones", word.byRules(3, 1, 1), 1);
        tongue(word, "m1(1=1);r999(w=0);r1000(w=1)");
        due("below it not", word.byRules(3, 1, 1), 0);
        tongue(word, "m1(1=1);rf(1=1)");
        due("who would mean it", word.byRules(3, 9, 1), 1);
        due("and nobody else", word.byRules(3, 9, 2), 1);
        tongue(word, "m2(w=1);m1(w=2&l=8);rk(1=1)");
        due("2 has most words left, then 1 is lower", word.byRules(7 - 1, 2, 1), 2);
        words(word, 0);
        due("nothing to say", word.byRules(1, 1, 0), 0);
        due("nothing said", word.byRules(1, 1, 1), 0);
        due("no saying", word.byRules(1, 1, 2), 0);
        tongue(word, "m1(1=1)");
        due("nobody wants to", word.byRules(2, 400, 2), 0);
        int[][] bad = {{0, 1, 0}, {8, 1, 0}, {-1, 1, 0}, {1, 0, 0}, {1, 401, 0}, {1, 1, 3}, {1, 1, -1}, {LEAST, 1, 0}, {1, LEAST, 0}};
        for (int[] b : bad) due("no such rules", word.byRules(b[0], b[1], b[2]), -1);
        word = crowd(8, 0);
        tongue(word, "m1(1=1);r1+w(d=0&e=w)");
        word.air(0, 1);
        for (int i = 0; i < 8; i++) words(word, i, 1);
        due("all eight", word.byRules(255, 400, 0), 7);
    }

    private static int table(int k, int what, int... uses) {
        OneWord word = new OneWord();
        tape(word, uses);
        int answer = word.table(uses.length, k, what);
        due("the tape is empty", word.count(3), 0);
        return answer;
    }

    private static void table() {
        due("the sum", table(3, -1, 2, 9, 9, 0), 9 + 9 * 4 + 2 * 7);
        int[] gaps = {7, 1, 4, 10};
        for (int i = 1; i <= 4; i++) due("gap of " + i, table(3, i, 2, 9, 9, 0), gaps[i - 1]);
        due("255 is more than 127", table(1, 2, 127, 255), 1);
        due("the last one ahead", table(1, 1, 127, 255), 2);
        due("in the sum, too", table(1, -1, 127, 255), 2 * 127 + 255);
        due("the most", table(5, -1, 255, 255, 255, 255, 255, 255, 255, 255, 255, 255, 255, 255), 255 * (12 + 5 * 66));
        due("the last gap", table(5, 12, 255, 255, 255, 255, 255, 255, 255, 255, 255, 255, 255, 255), 56);
        due("one alone", table(5, 1, 0), 1);
        OneWord word = new OneWord();
        due("no tape", word.table(1, 1, -1), -1);
        tape(word, 1, 2, 3);
        int[][] bad = {{0, 1, -1}, {13, 1, -1}, {3, 0, -1}, {3, 6, -1}, {3, 1, 0}, {3, 1, 4}, {3, 1, -2}, {LEAST, 1, -1}, {3, MOST, 1}};
        for (int[] b : bad) due("no such table", word.table(b[0], b[1], b[2]), -1);
        due("the tape stays", word.count(3), 20);
    }

    private static int alike(int what, int... gaps) {
        OneWord word = new OneWord();
        tape(word, gaps);
        int answer = word.alike(gaps.length, what);
        due("the tape is empty", word.count(3), 0);
        return answer;
    }

    private static void alike() {
        int[] first = {1, 1, 4, 2};
        int[] only = {2, 1, 1, 2};
        for (int what = 0; what < 4; what++) {
            due("meaning " + what + " of the first", alike(what, 6, 5, 20, 7), first[what]);
            due("meaning " + what + " of the only one", alike(what, 6, 5, 20), only[what]);
            due("no meaning " + what + " of two alike", alike(what, 9, 8, 9), -2);
        }
        due("how many", alike(4, 6, 5, 20, 7), 4);
        due("the last one, too", alike(4, 6, 20, 5), 1);
        due("as the first", alike(0, 6, 20, 5), 3);
        due("as the second", alike(1, 5, 20, 6), 3);
        due("none", alike(4, 6, 8, 20), 0);
        due("SAFE", alike(0, 6, 8, 20), -3);
        due("SAFE", alike(3, 6, 8, 20), -3);
        due("one alone is safe", alike(4, 63), 0);
        due("the edges", alike(4, 1, 2, 63, 62), 4);
        due("a gap of 0", alike(4, 0, 1), -2);
        due("of 64", alike(4, 63, 64), -2);
        due("two alike", alike(0, 5, 6, 5), -2);
        due("twelve", alike(4, 1, 2, 3, 4, 5, 6, 7, 8, 9, 10, 11, 12), 121);
        OneWord word = new OneWord();
        due("no tape", word.alike(1, 4), -1);
        tape(word, 1, 2, 3);
        int[][] bad = {{0, 0}, {13, 0}, {3, -1}, {3, 5}, {LEAST, 0}, {3, MOST}};
        for (int[] b : bad) due("no such table", word.alike(b[0], b[1]), -1);
        due("the tape stays", word.count(3), 20);
    }

    private static void seed() {
        OneWord word = new OneWord();
        due("too low", word.seed(-1), false);
        due("too high", word.seed(65536), false);
        due("X stays", word.count(4), 1);
        due("the most", word.seed(65535), true);
        due("X, too", word.count(4), 65535);
        word.draw(1);
        due("what comes of it", word.count(4), (25173 * 65535L + 13849) % 65536);
        due("the least", word.seed(0), true);
        word.draw(1);
        due("what comes of that", word.count(4), 13849);
    }

    private static void draw() {
        OneWord word = crowd(8, 1000);
        int[] bad = {0, -1, 201, LEAST, MOST};
        for (int n : bad) due("no such n", word.draw(n), -1);
        due("X stays", word.count(4), 1);
        due("every breath", word.draw(3), 3);
        int x = 1;
        for (int i = 0; i < 3; i++) {
            x = (25173 * x + 13849) % 65536;
            due("who " + i, word.said(i, 0), x % 8);
            due("when " + i, word.said(i, 1), i);
        }
        word.say(0, 50);
        due("from the next breath on", word.draw(1), 1);
        due("that is", word.said(4, 1), 51);
        word = new OneWord();
        word.mouth(0, 0, 877);
        for (int i = 1; i < 7; i++) word.mouth(0, 0, 877);
        due("877 is not below 877", word.draw(1), 0);
        due("but X goes on", word.count(4), 39022);
        word = new OneWord();
        for (int i = 0; i < 7; i++) word.mouth(0, 0, 878);
        due("it is below 878", word.draw(1), 1);
        word = crowd(6, 1000);
        due("mouth 6 is not there", word.draw(1), 0);
        word.draw(1);
        due("nor 7", word.draw(1), 1);
        due("nothing was said, so again from 0", word.said(0, 1), 0);
    }

    private static void drawAtItsEnds() {
        OneWord word = crowd(8, 1000);
        due("nothing heard yet", word.heard(0), 0);
        due("a hundred and fifty", word.draw(200), 150);
        due("all are heard", word.heard(0), 150);
        due("the last", word.said(149, 1), 149);
        int x = 1;
        for (int i = 0; i < 200; i++) x = (25173 * x + 13849) % 65536;
        due("X goes on", word.count(4), x);
        due("none any more", word.draw(1), 0);
        word = crowd(8, 1000);
        word.say(0, 9996);
        due("up to the last breath", word.draw(5), 3);
        due("which is", word.said(3, 1), 9999);
        due("none any more", word.draw(9), 0);
    }

    private static void keepAndUndo() {
        OneWord word = crowd(8, 1000);
        due("nothing was kept", word.undo(), false);
        due("none to keep", word.keep(), 0);
        word.draw(4);
        due("back to none", word.undo(), true);
        due("none", word.count(1), 0);
        due("X as it was", word.count(4), 1);
        word.draw(4);
        int x = word.count(4);
        int[] who = new int[4];
        for (int i = 0; i < 4; i++) who[i] = word.said(i, 0);
        due("four", word.keep(), 4);
        word.quiet();
        word.seed(9);
        word.say(7, 3);
        word.say(7, 4000);
        due("heard before undoing", word.heard(0), 2);
        due("undone", word.undo(), true);
        due("four again", word.count(1), 4);
        due("heard after undoing", word.heard(0), 4);
        due("X again", word.count(4), x);
        for (int i = 0; i < 4; i++) due("who " + i, word.said(i, 0), who[i]);
        word.say(1, 77);
        due("again and again", word.undo(), true);
        due("four again", word.count(1), 4);
        word.air(3, 3);
        word.undo();
        due("the air is not kept", word.count(5), 3);
    }

    private static void quiet() {
        OneWord word = crowd(2, 1000);
        due("none fall", word.quiet(), 0);
        word.say(0, 5);
        word.say(1, 8);
        word.seed(77);
        due("two are heard", word.heard(1), 2);
        due("two fall", word.quiet(), 2);
        due("none are left", word.count(1), 0);
        due("none is heard", word.heard(1), 0);
        due("X stays", word.count(4), 77);
        due("from breath 0 again", word.say(0, 0), 1);
    }

    private static void said() {
        OneWord word = new OneWord();
        word.mouth(0, 0, 0);
        word.mouth(4, 0, 0);
        word.mouth(8, 0, 0);
        word.air(4, 4);
        word.say(0, 10);
        word.say(0, 10);
        word.say(1, 10);
        word.say(2, 11);
        due("who", word.said(2, 0), 1);
        due("when", word.said(3, 1), 11);
        due("0 and 1 hear it, 2 is too far", word.said(0, 2), 2);
        due("twice in one breath: both", word.said(1, 2), 2);
        due("its own first, then by who is nearer", word.said(2, 2), 2);
        due("at 11 it is nearer to itself", word.said(3, 2), 2);
        word.air(4, 3);
        due("SPEED as it is now", word.said(3, 2), 2);
        word.air(0, 3);
        due("RANGE as it is now", word.said(3, 2), 1);
        word.mouth(8, 0, 0);
        due("a new ear hears it, too", word.said(3, 2), 2);
        int[][] bad = {{4, 0}, {-1, 0}, {0, 3}, {0, -1}, {MOST, 0}, {LEAST, 2}};
        for (int[] b : bad) due("none", word.said(b[0], b[1]), -1);
    }

    private static void check() {
        OneWord word = crowd(1, 0);
        tongue(word, "mg%30(1=1)");
        due("nothing heard, nothing told", word.check(0, 0), -1);
        word.say(0, 1);
        word.say(0, 6);
        due("some are lacking", word.check(0, 0), 0);
        word.feed(3, 5, 0, 0, 0);
        due("right", word.check(0, 2), -1);
        due("the tape is empty", word.count(3), 0);
        word.feed(3, 5, 0, 0, 0);
        due("one is lacking", word.check(0, 1), 1);
        word.feed(3, 5, 0, 0, 0);
        due("one too many", word.check(0, 3), 2);
        word.feed(3, 5, 3, 0, 0);
        due("whatever it is", word.check(0, 3), 2);
        word.feed(3, 0x00010005, 0, 0, 0);
        due("the second byte counts", word.check(0, 2), 1);
        word.feed(4, 5, 0, 0, 0);
        due("the first is not so", word.check(0, 2), 0);
        word.feed(3, 6, 0, 0, 0);
        due("the second", word.check(0, 2), 1);
        word.feed(3, 0x01000005, 0, 0, 0);
        due("all four bytes count", word.check(0, 2), 1);
        word.feed(-1, 5, 0, 0, 0);
        due("a number below 0", word.check(0, 2), 0);
        word.feed(3, 5, 0, 0, 0);
        int[][] bad = {{1, 0}, {-1, 0}, {0, -1}, {0, 6}, {0, MOST}, {0, LEAST}, {0, 0x40000000}};
        for (int[] b : bad) due("no such check", word.check(b[0], b[1]), -2);
        due("the tape stays", word.count(3), 20);
    }

    private static void count() {
        OneWord word = crowd(8, 0);
        tape(word, 5, 6);
        word.sentence(7, 2);
        due("mouths", word.count(0), 8);
        due("words of 7", word.count(17), 2);
        due("words of 0", word.count(10), 0);
        due("its first", word.count(48), 5);
        due("its second", word.count(49), 6);
        due("no third", word.count(50), -1);
        int[] bad = {-1, 7, 8, 9, 18, 19, 20, 47, 51, 52, 100, MOST, LEAST, LEAST + 9, LEAST + 10, LEAST + 19, LEAST + 20};
        for (int what : bad) due("none for " + what, word.count(what), -1);
        word.say(3, 3);
        due("sayings", word.count(1), 1);
        word.feed(1, 2, 3, 4, 5);
        due("tape", word.count(3), 20);
    }
}
