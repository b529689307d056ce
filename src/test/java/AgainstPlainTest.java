import java.util.Random;

/** Long runs of drawn calls, right and wrong ones, on OneWord and on the plain people, which must answer alike. */
public final class AgainstPlainTest {
    private static final int RUNS = 1200;
    private static final int CROWDS = 2500;
    private static final int CALLS = 400;
    private static final String[] TONGUES = {
        "mg(1=1);r1(1=1)", "mg+s*10(1=1);rf*5+k(1=1)", "mg*2+w(1=1)", "mp(1=1);rf(g>1)", "mg%5+1(s=1);mg%3+1(1=1);rf+w(1=1)",
        "mg-1(w=e&!g<2);ml(g<p|d>9);r100-g(f=1);ra(k>1)", "m[g+p]%7+1(1=1);r[a*k+g]%9(!w=l)", "m7(g=63);mg/s(s=0|g/s>3);m9(1=1)",
        "mg/[g-3]+1(1=1);r1000(f=1)", "m1+[g+w*3+l*5+p]%4(1=1);rf*[1+w](1=1)", "m1(1=1);r1(1=1)", "m1+g%2(1=1);rf+1(1=1)",
        "md+e+1(g<40);m31+g(1=1)", "m0-5(g=1);m99999*99999*g(g=2);mg*99999%31(1=1)"};

    private final Random random;
    private final OneWord word = new OneWord();
    private final PlainPeople plain = new PlainPeople();
    private final StringBuilder log = new StringBuilder();
    private final int mostWords;
    private boolean right = true;

    private AgainstPlainTest(long seed) {
        random = new Random(seed);
        mostWords = random.nextInt(4) == 0 ? 4 : 2;
    }

    public static void main(String[] args) {
        int wrong = 0;
        for (int run = 0; run < RUNS + CROWDS && wrong < 3; run++) {
            AgainstPlainTest test = new AgainstPlainTest(run);
            if (run < RUNS) test.go();
            else test.crowd();
            if (!test.right) {
                wrong++;
                System.out.println("run " + run + ":\n" + test.log);
            }
        }
        System.out.println(wrong == 0 ? "all answers are alike" : wrong + " runs differ");
        if (wrong != 0) System.exit(1);
    }

    private void go() {
        int calls = 0;
        int first = random.nextInt(5);
        for (int i = 0; i < first; i++, calls++) mouthCall();
        for (; calls < CALLS && right; calls++) {
            call(random.nextInt(24));
        }
    }

    /** Tongues by which most rows can be said in many ways, so that much hangs on which of like rows is told. */
    private String mixingTongue() {
        int n = 2 + random.nextInt(5);
        String mixed = "m1+[g*" + random.nextInt(4) + "+w*" + random.nextInt(4) + "+l*" + random.nextInt(4) + "+p*" + random.nextInt(4)
            + "+s*" + random.nextInt(4) + "]%" + n;
        String[] when = {"(1=1)", "(g>" + random.nextInt(20) + ")", "(g%3=" + random.nextInt(3) + "|g=63)", "(!w=l|g>2)", "(g>p|p=63|g>5)"};
        return mixed + when[random.nextInt(when.length)] + ";rf+[g+w*2+k]%3(g>" + random.nextInt(3) + ")";
    }

    private void crowd() {
        int mouths = 1 + random.nextInt(4);
        for (int i = 0; i < mouths; i++) {
            same("mouth(0, 0, 0)", word.mouth(0, 0, 0), plain.mouth(0, 0, 0));
        }
        String text = mixingTongue();
        feedBytes(text.chars().toArray());
        log.append(text).append('\n');
        same("tongue(" + text.length() + ")", word.tongue(text.length()), plain.tongue(text.length()));
        int words = 0;
        for (int i = 0; i < mouths; i++) {
            int n = random.nextInt(mouths < 3 ? 5 : 4);
            words += n;
            feedBytes(new int[] {1 + random.nextInt(4), 1 + random.nextInt(4), 1 + random.nextInt(3), 1 + random.nextInt(2)});
            same("sentence(" + i + ", " + n + ")", word.sentence(i, n), plain.sentence(i, n));
        }
        int bits = (1 << mouths) - 1;
        plain.remember(true);
        same("soonest(" + bits + ", -1)", word.soonest(bits, -1), plain.soonest(bits, -1));
        for (int i = 0; i < words; i++) {
            same("soonest(" + bits + ", 100 + " + i + ")", word.soonest(bits, 100 + i), plain.soonest(bits, 100 + i));
            same("soonest(" + bits + ", 200 + " + i + ")", word.soonest(bits, 200 + i), plain.soonest(bits, 200 + i));
        }
        for (int what = 0; what < 3; what++) {
            same("byRules(" + bits + ", 99, " + what + ")", word.byRules(bits, 99, what), plain.byRules(bits, 99, what));
        }
    }

    private void same(String call, long got, long want) {
        log.append(call).append(" -> ").append(got);
        if (got != want) {
            log.append(" but plainly ").append(want);
            right = false;
        }
        log.append('\n');
    }

    private static int bit(boolean b) {
        return b ? 1 : 0;
    }

    /** Mostly within the bounds, now and then just beyond them or far away. */
    private int near(int low, int high) {
        int kind = random.nextInt(40);
        if (kind == 0) return low - 1;
        if (kind == 1) return high + 1;
        if (kind == 2) return random.nextInt();
        if (kind == 3) return low;
        if (kind == 4) return high;
        return low + random.nextInt(high - low + 1);
    }

    private int someMouth() {
        return near(0, Math.max(0, plain.count(0) - 1));
    }

    private int someBits() {
        return near(1, Math.max(1, (1 << plain.count(0)) - 1));
    }

    private void feedCall(int a, int b, int c, int d, int e) {
        same("feed(" + a + ", " + b + ", " + c + ", " + d + ", " + e + ")", word.feed(a, b, c, d, e), plain.feed(a, b, c, d, e));
    }

    private void feedBytes(int[] bytes) {
        for (int from = 0; from < bytes.length; from += 20) {
            int[] five = new int[5];
            for (int i = 0; i < 20; i++) {
                int b = from + i < bytes.length ? bytes[from + i] : 32;
                five[i / 4] |= b << 24 - 8 * (i % 4);
            }
            feedCall(five[0], five[1], five[2], five[3], five[4]);
        }
    }

    /** So that what is fed stands at the tape's beginning. */
    private void clearTape() {
        if (plain.count(0) > 0 && random.nextInt(30) != 0) {
            same("check(0, 0)", word.check(0, 0), plain.check(0, 0));
        }
    }

    private void mouthCall() {
        int spread = random.nextInt(3) == 0 ? 50 : 6;
        int x = near(-spread, spread);
        int y = near(-spread, spread);
        int t = near(0, 1000);
        same("mouth(" + x + ", " + y + ", " + t + ")", word.mouth(x, y, t), plain.mouth(x, y, t));
    }

    private String sum(int depth) {
        StringBuilder s = new StringBuilder();
        int factors = 1 + random.nextInt(3);
        for (int i = 0; i < factors; i++) {
            if (i > 0) s.append("+-*/%".charAt(random.nextInt(5)));
            int kind = random.nextInt(8);
            if (kind == 0 && depth > 0) s.append('[').append(sum(depth - 1)).append(']');
            else if (kind < 3) s.append(random.nextInt(random.nextInt(10) == 0 ? 100000 : 12));
            else s.append("gwlpsdekaf".charAt(random.nextInt(10)));
        }
        return s.toString();
    }

    private String condition(int depth) {
        StringBuilder s = new StringBuilder();
        int pieces = 1 + random.nextInt(3);
        for (int i = 0; i < pieces; i++) {
            if (i > 0) s.append("&|".charAt(random.nextInt(2)));
            int kind = random.nextInt(6);
            if (kind == 0 && depth > 0) s.append('!');
            if (kind <= 1 && depth > 0) s.append('(').append(condition(depth - 1)).append(')');
            else s.append(sum(depth)).append("<>=".charAt(random.nextInt(3))).append(sum(depth));
        }
        return s.toString();
    }

    private String someTongue() {
        if (random.nextInt(2) == 0) return TONGUES[random.nextInt(TONGUES.length)];
        StringBuilder s = new StringBuilder();
        int clauses = 1 + random.nextInt(random.nextInt(8) == 0 ? 16 : 5);
        for (int i = 0; i < clauses; i++) {
            if (i > 0) s.append(';');
            s.append("mr".charAt(random.nextInt(2))).append(sum(2)).append('(').append(condition(2)).append(')');
        }
        if (random.nextInt(6) == 0) {
            String signs = "mr()[]!&|<>=+-*/%;0123456789gwlpsdekafx ";
            for (int i = random.nextInt(8); i >= 0; i--) {
                int at = random.nextInt(s.length());
                int kind = random.nextInt(3);
                if (kind == 0) s.deleteCharAt(at);
                else if (kind == 1) s.insert(at, signs.charAt(random.nextInt(signs.length())));
                else s.insert(at, "" + s.charAt(at) + s.charAt(at));
                if (s.length() == 0) s.append('m');
            }
        }
        return s.length() > 200 ? s.substring(0, 200) : s.toString();
    }

    private void tongueCall() {
        String text = someTongue();
        clearTape();
        feedBytes(text.chars().toArray());
        int n = random.nextInt(20) == 0 ? near(1, 200) : text.length();
        log.append(text).append('\n');
        same("tongue(" + n + ")", word.tongue(n), plain.tongue(n));
    }

    private void sentenceCall() {
        clearTape();
        feedBytes(new int[] {near(1, 6) & 255, near(1, 6) & 255, near(1, 31) & 255, near(1, 4) & 255});
        int m = someMouth();
        int n = near(0, mostWords);
        same("sentence(" + m + ", " + n + ")", word.sentence(m, n), plain.sentence(m, n));
    }

    private void sayCall() {
        int m = someMouth();
        int last = plain.count(1) == 0 ? 0 : plain.said(plain.count(1) - 1, 1);
        int breath = random.nextInt(30) == 0 ? near(0, 9999) : last + random.nextInt(random.nextInt(8) == 0 ? 90 : 5);
        same("say(" + m + ", " + breath + ")", word.say(m, breath), plain.say(m, breath));
    }

    private void hearingCall() {
        int ear = someMouth();
        int i = near(0, Math.max(0, plain.heard(ear) - 1));
        int what = near(0, 3);
        same("heard(" + ear + ")", word.heard(ear), plain.heard(ear));
        same("hearing(" + ear + ", " + i + ", " + what + ")", word.hearing(ear, i, what), plain.hearing(ear, i, what));
    }

    private void meaningCall() {
        int ear = someMouth();
        int gap = near(1, 63);
        int who = someMouth();
        int last = near(0, 8);
        int before = near(0, 63);
        same("meaning(" + ear + ", " + gap + ", " + who + ", " + last + ", " + before + ")",
            word.meaning(ear, gap, who, last, before), plain.meaning(ear, gap, who, last, before));
    }

    private int toldMeaning(int ear, int gap) {
        int kind = random.nextInt(12);
        if (kind < 4) return 32;
        if (kind == 4) return near(0, 32) & 255;
        int mouths = Math.max(1, plain.count(0));
        int meant = plain.meaning(ear, gap, random.nextInt(mouths), random.nextInt(mouths), 1 + random.nextInt(8));
        return meant < 0 ? 1 : meant;
    }

    private void readCall() {
        int ear = someMouth();
        int n = near(1, 4);
        int size = n < 1 || n > 12 ? 3 : n;
        int[] bytes = new int[2 * size];
        for (int i = 0; i < size; i++) {
            bytes[2 * i] = random.nextInt(60) == 0 ? near(1, 63) & 255 : 1 + random.nextInt(8);
            bytes[2 * i + 1] = toldMeaning(ear, bytes[2 * i]);
        }
        clearTape();
        feedBytes(bytes);
        int what = near(-1, size - 1);
        same("read(" + ear + ", " + n + ", " + what + ")", word.read(ear, n, what), plain.read(ear, n, what));
    }

    private void missedCall() {
        int ear = someMouth();
        int mouth = someMouth();
        int n = near(1, random.nextInt(5) == 0 ? 10 : 3);
        int size = n < 1 || n > 10 ? 3 : n;
        int[] bytes = new int[2 * size + 1];
        for (int i = 0; i < size; i++) {
            bytes[i] = random.nextInt(20) == 0 ? near(1, 63) & 255 : 1 + random.nextInt(8);
        }
        for (int i = 0; i <= size; i++) {
            bytes[size + i] = toldMeaning(ear, Math.max(1, bytes[Math.min(i, size - 1)] - random.nextInt(2)));
        }
        clearTape();
        feedBytes(bytes);
        int what = near(-1, 2);
        same("missed(" + ear + ", " + mouth + ", " + n + ", " + what + ")",
            word.missed(ear, mouth, n, what), plain.missed(ear, mouth, n, what));
    }

    private void soonestCall() {
        int bits = someBits();
        same("soonest(" + bits + ", -1)", word.soonest(bits, -1), plain.soonest(bits, -1));
        for (int from = 100; from <= 200; from += 100) {
            int what = from + near(0, 6);
            same("soonest(" + bits + ", " + what + ")", word.soonest(bits, what), plain.soonest(bits, what));
        }
    }

    private void rulesCall() {
        int bits = someBits();
        int breaths = near(1, random.nextInt(4) == 0 ? 400 : 30);
        int what = near(0, 2);
        same("byRules(" + bits + ", " + breaths + ", " + what + ")",
            word.byRules(bits, breaths, what), plain.byRules(bits, breaths, what));
    }

    private void tableCall() {
        clearTape();
        int spread = random.nextBoolean() ? 4 : 256;
        int[] bytes = new int[12];
        for (int i = 0; i < 12; i++) bytes[i] = random.nextInt(spread);
        feedBytes(bytes);
        int n = near(1, 12);
        int k = near(1, 5);
        int what = near(-1, 12);
        same("table(" + n + ", " + k + ", " + what + ")", word.table(n, k, what), plain.table(n, k, what));
    }

    private void alikeCall() {
        clearTape();
        int[] bytes = new int[12];
        for (int i = 0; i < 12; i++) {
            int j = random.nextInt(i + 1);
            bytes[i] = bytes[j];
            bytes[j] = (i + 1) * (random.nextInt(4) == 0 ? 2 : 1);
        }
        if (random.nextInt(8) == 0) bytes[random.nextInt(12)] = random.nextInt(70);
        feedBytes(bytes);
        int n = near(1, 12);
        int what = near(0, 4);
        same("alike(" + n + ", " + what + ")", word.alike(n, what), plain.alike(n, what));
    }

    private void checkCall() {
        int ear = someMouth();
        int heard = Math.min(25, Math.max(0, plain.heard(ear)));
        clearTape();
        int[] bytes = new int[4 * heard];
        for (int i = 0; i < heard; i++) bytes[4 * i + 3] = plain.hearing(ear, i, 3);
        if (heard > 0 && random.nextInt(3) == 0) bytes[random.nextInt(4 * heard)] += 1;
        feedBytes(bytes);
        int n = random.nextInt(3) == 0 ? near(0, 6) : heard;
        same("check(" + ear + ", " + n + ")", word.check(ear, n), plain.check(ear, n));
    }

    private void call(int kind) {
        int a = random.nextInt(1000);
        switch (kind) {
            case 0 -> { if (random.nextInt(6) == 0) mouthCall(); }
            case 1 -> {
                int range = random.nextInt(3) == 0 ? near(0, 200) : near(0, 15);
                int speed = random.nextInt(3) == 0 ? near(1, 100) : near(1, 5);
                same("air(" + range + ", " + speed + ")", bit(word.air(range, speed)), bit(plain.air(range, speed)));
            }
            case 2 -> feedCall(random.nextInt(), a, random.nextInt(), a, random.nextInt());
            case 3, 4 -> tongueCall();
            case 5 -> sentenceCall();
            case 6, 7, 8 -> sayCall();
            case 9, 10 -> hearingCall();
            case 11 -> {
                int m = someMouth();
                int o = someMouth();
                same("way(" + m + ", " + o + ")", word.way(m, o), plain.way(m, o));
            }
            case 12 -> meaningCall();
            case 13 -> readCall();
            case 14 -> missedCall();
            case 15 -> soonestCall();
            case 16 -> rulesCall();
            case 17 -> tableCall();
            case 18 -> alikeCall();
            case 19 -> drawCall();
            case 20 -> keptCall();
            case 21 -> {
                int i = near(0, Math.max(0, plain.count(1) - 1));
                int what = near(0, 2);
                same("said(" + i + ", " + what + ")", word.said(i, what), plain.said(i, what));
            }
            case 22 -> checkCall();
            default -> {
                int what = near(0, 52);
                same("count(" + what + ")", word.count(what), plain.count(what));
            }
        }
    }

    private void drawCall() {
        int n = random.nextInt(6) == 0 ? near(1, 200) : near(1, 9);
        same("draw(" + n + ")", word.draw(n), plain.draw(n));
        if (random.nextInt(4) == 0) {
            int x = near(0, 65535);
            same("seed(" + x + ")", bit(word.seed(x)), bit(plain.seed(x)));
        }
        same("count(4)", word.count(4), plain.count(4));
    }

    private void keptCall() {
        int kind = random.nextInt(5);
        if (kind < 2) same("keep()", word.keep(), plain.keep());
        else if (kind < 4) same("undo()", bit(word.undo()), bit(plain.undo()));
        else if (random.nextBoolean()) same("quiet()", word.quiet(), plain.quiet());
    }
}
