/** Boundaries of rows of gaps that are read back: who may have said them, and what may have been missed. */
final class BoundariesOfReading extends Boundaries {
    private BoundariesOfReading() {}

    /** Gaps and meanings by turns, as READ takes them. */
    private static int[] pairs(int n, int gap, int meaning) {
        int[] bytes = new int[2 * n];
        for (int i = 0; i < n; i++) {
            bytes[2 * i] = gap;
            bytes[2 * i + 1] = meaning;
        }
        return bytes;
    }

    /** Gaps, then one meaning more than these, as MISSED takes them. */
    private static int[] gapsThenMeanings(int n, int gap, int meaning) {
        int[] bytes = row(2 * n + 1, meaning);
        for (int i = 0; i < n; i++) bytes[i] = gap;
        return bytes;
    }

    private static long read(OneWord word, int ear, int what, int... bytes) {
        tape(word, bytes);
        return word.read(ear, bytes.length / 2, what);
    }

    private static int missed(OneWord word, int ear, int mouth, int what, int... bytes) {
        tape(word, bytes);
        return word.missed(ear, mouth, bytes.length / 2, what);
    }

    // ---- Promise 12 ----

    @Of(part = "Terms", says = "READ: a row of GAPS (1 to 12, each 1 to 63)")
    static void p12RowsOf1To12() {
        OneWord word = crowd(8);
        long rows = 1;
        for (int n = 1; n <= 12; n++) {
            rows *= 8;
            due("of " + n, read(word, 0, -1, pairs(n, 1, ANY)), rows);
        }
        tape(word, pairs(13, 1, ANY));
        due("of 13", word.read(0, 13, -1), -1);
        due("of 0", word.read(0, 0, -1), -1);
        due("the tape stays", word.count(3), 40);
    }

    @Of(part = "Promise 12", says = "(n 1 to 12; GAP, MEANING; empty then)")
    static void p12TheTapeIsEmptyThen() {
        int[] whats = {-1, 0};
        for (int what : whats) {
            OneWord word = crowd(1);
            tape(word, row(60, 5));
            due("row by row", word.read(0, 1, what), 0);
            due("empty then", word.count(3), 0);
        }
    }

    @Of(part = "Promise 12", says = "READ for an EAR by the first 2 n bytes of the tape")
    static void p12WhatComesBehindTheFirstBytesIsNotAsked() {
        OneWord word = crowd(2, "mg(1=1)");
        due("one pair", read(word, 0, -1, 3, 3), 2);
        tape(word, 3, 3, 0, 99);
        due("what is behind it is no gap and no meaning", word.read(0, 1, -1), 2);
        tape(word, 3, 3, 4, 4, 64, 0);
        due("nor behind two", word.read(0, 2, -1), 4);
        due("a gap and then its meaning", read(word, 0, -1, 3, 3, 4, 5), 0);
    }

    @Of(part = "Promise 12", says = "-2: no such GAPS, MEANINGS")
    static void p12GapsAre1To63() {
        OneWord word = crowd(2);
        due("0", read(word, 0, -1, 0, ANY), -2);
        due("1", read(word, 0, -1, 1, ANY), 2);
        due("63", read(word, 0, -1, 63, ANY), 2);
        due("64", read(word, 0, -1, 64, ANY), -2);
        due("255", read(word, 0, -1, 255, ANY), -2);
        int[] last = pairs(12, 1, ANY);
        last[22] = 64;
        due("the last of twelve", read(word, 0, -1, last), -2);
        last[22] = 0;
        due("the last of twelve, 0", read(word, 0, -1, last), -2);
        last[22] = 63;
        due("the last of twelve, 63", read(word, 0, -1, last), 4096);
    }

    @Of(part = "Terms", says = "with the MEANINGS told (0 to 31; 32: any)")
    static void p12MeaningsAre0To32() {
        OneWord word = crowd(2, "m31(w=1)");
        due("0", read(word, 0, 0, 1, 0), 1);
        due("31", read(word, 0, 0, 1, 31), 2);
        due("32: any", read(word, 0, 0, 1, 32), 3);
        due("33", read(word, 0, 0, 1, 33), -2);
        due("255", read(word, 0, 0, 1, 255), -2);
        int[] last = pairs(12, 1, ANY);
        last[23] = 33;
        due("the last of twelve", read(word, 0, -1, last), -2);
        last[23] = 31;
        due("the last of twelve, 31", read(word, 0, -1, last), 2048);
    }

    @Of(part = "Promise 12", says = "-2: no such GAPS, MEANINGS")
    static void p12NoSuchGapsChangeNothingElse() {
        int[][] bad = {{0, 5}, {64, 5}, {5, 33}, {5, 255}, {5, 5, 0, 5}, {5, 5, 5, 33}};
        for (int[] b : bad) {
            takesTheTape("a row of " + b.length, Boundaries::threeWithoutTape, word -> read(word, 0, -1, b), -2);
            takesTheTape("who of " + b.length, Boundaries::threeWithoutTape, word -> read(word, 0, 0, b), -2);
        }
    }

    @Of(part = "Promise 12", says = "READ for an EAR by the first 2 n bytes of the tape")
    static void p12ABadRowIsForgotten() {
        OneWord word = crowd(1);
        for (int n = 12; n >= 2; n--) {
            due("a bad row of " + n, read(word, 0, -1, pairs(n, 64, 33)), -2);
            due("a good one of " + (n - 1), read(word, 0, -1, pairs(n - 1, 1, 0)), 1);
        }
    }

    @Of(part = "Promise 12", says = "what NONE how many rows")
    static void p12NoRowAndAllRows() {
        OneWord word = crowd(8, "mw(l=8);mw-l(w>l)");
        due("none", read(word, 0, -1, 1, 8), 0);
        due("one", read(word, 0, -1, 1, 7), 1);
        due("all", read(word, 0, -1, 1, ANY), 8);
        due("behind 7 nobody is higher", read(word, 0, -1, 1, 7, 1, 1), 0);
        due("more than an int holds", read(crowd(8), 0, -1, pairs(12, 63, 0)), 1L << 36);
        due("11 rows that an int does not hold", read(crowd(8), 0, -1, pairs(11, 63, 0)), 1L << 33);
    }

    @Of(part = "Promise 12", says = "else who may have said SAYING what (bits)")
    static void p12FromTheFirstSayingToTheLast() {
        OneWord word = crowd(8, "mw(1=1)");
        int[] bytes = pairs(12, 9, 0);
        for (int i = 0; i < 12; i++) bytes[2 * i + 1] = i % 8;
        for (int i = 0; i < 12; i++) due("saying " + i, read(word, 0, i, bytes), 1L << i % 8);
        due("all", read(word, 0, 11, pairs(12, 9, ANY)), 255);
        due("nobody", read(word, 0, 0, 9, 8), 0);
        tape(word, bytes);
        due("12 of 12", word.read(0, 12, 12), -1);
        due("1 of 1", word.read(0, 1, 1), -1);
        due("-2", word.read(0, 12, -2), -1);
        due("the tape stays", word.count(3), 40);
    }

    @Of(part = "Promise 12", says = "who may have said SAYING what")
    static void p12WhoCanNotGoOnIsNotTold() {
        OneWord word = crowd(3, "m1(w=l+1)");
        due("of three each one higher", read(word, 0, 0, 5, ANY, 5, 1, 5, 1), 1);
        due("the second", read(word, 0, 1, 5, ANY, 5, 1, 5, 1), 2);
        due("the third", read(word, 0, 2, 5, ANY, 5, 1, 5, 1), 4);
        due("of four there is no row", read(word, 0, -1, 5, ANY, 5, 1, 5, 1, 5, 1), 0);
        due("so nobody", read(word, 0, 0, 5, ANY, 5, 1, 5, 1, 5, 1), 0);
    }

    @Of(part = "Terms", says = "all rows of MOUTHS (that there are, within RANGE of it)")
    static void p12MouthsWithinRange() {
        OneWord word = line(0, 5, -6);
        int[][] at = {{0, 1}, {4, 1}, {5, 3}, {6, 7}, {200, 7}};
        for (int[] a : at) {
            word.air(a[0], 1);
            due("at a RANGE of " + a[0], read(word, 0, 0, 1, ANY), a[1]);
        }
        word.air(5, 1);
        due("rows of two", read(word, 0, -1, 1, ANY, 1, ANY), 4);
        due("of another ear", read(word, 2, 0, 1, ANY), 4);
    }

    @Of(part = "Terms", says = "heard by an EAR one behind the other, the first behind its last HEARING (or none)")
    static void p12BehindTheLastHearingOrNone() {
        OneWord word = line(0, 5);
        tongue(word, "m9(l=8&p=63);ml+p/2(1=1)");
        due("none", read(word, 0, 0, 1, 9), 3);
        word.say(1, 0);
        due("the first one's gap is 63", read(word, 0, 0, 1, 31), 3);
        word.say(1, 8);
        due("then its own", read(word, 0, 0, 1, 5), 3);
        due("the second is behind the first", read(word, 0, -1, 6, 5, 1, 4), 2);
        word.air(0, 1);
        due("what this ear did not hear is none", read(word, 0, 0, 1, 9), 1);
        word.quiet();
        due("none again", read(word, 1, 0, 1, 9), 2);
    }

    @Of(part = "Terms", says = "by which each MEANS what was told: how many; who may have said the i-th.")
    static void p12EachMustMeanWhatWasTold() {
        OneWord word = crowd(3, "mw+g(1=1)");
        due("each", read(word, 0, -1, 4, 4, 4, 5, 4, 6), 1);
        due("not the first", read(word, 0, -1, 4, 3, 4, 5, 4, 6), 0);
        due("not the last", read(word, 0, -1, 4, 4, 4, 5, 4, 7), 0);
        due("one is any", read(word, 0, -1, 4, 4, 4, ANY, 4, 6), 3);
        due("who said that", read(word, 0, 1, 4, 4, 4, ANY, 4, 6), 7);
        due("who said the one ahead", read(word, 0, 0, 4, 4, 4, ANY, 4, 6), 1);
        due("who said the one behind", read(word, 0, 2, 4, 4, 4, ANY, 4, 6), 4);
    }

    @Of(part = "Promise 12", says = "-1 also: no such ones")
    static void p12NoSuchReadChangesNothing() {
        int[][] bad = {{-1, 1, -1}, {3, 1, -1}, {8, 1, -1}, {LEAST, 1, -1}, {MOST, 1, -1}, {0, 0, -1}, {0, -1, -1}, {0, 13, -1}, {0, LEAST, -1},
            {0, MOST, -1}, {0, 0x40000001, -1}, {0, 1, -2}, {0, 1, 1}, {0, 12, 12}, {0, 1, LEAST}, {0, 1, MOST}, {0, 0, 0}};
        for (int[] b : bad) refused("read " + b[0] + " " + b[1] + " " + b[2], word -> word.read(b[0], b[1], b[2]), -1);
    }

    @Of(part = "Promise 12", says = "it has not so many (the tape stays)")
    static void p12MoreThanTheTapeHas() {
        refused("11 of twenty bytes", Boundaries::threeWithShortTape, word -> word.read(0, 11, -1), -1);
        refused("12 of twenty bytes", Boundaries::threeWithShortTape, word -> word.read(0, 12, 0), -1);
        refused("1 of none", Boundaries::threeWithoutTape, word -> word.read(0, 1, -1), -1);
        OneWord word = crowd(1, "m2(1=1)");
        tape(word, row(20, 2));
        due("10 of twenty bytes", word.read(0, 10, -1), 1);
    }

    @Of(part = "Promise 12", says = "what NONE how many rows, else who may have said SAYING what (bits)")
    static void p12ReadingChangesNothingButTheTape() {
        takesTheTape("how many", Boundaries::three, word -> Math.min(0, word.read(0, 12, -1)), 0);
        takesTheTape("who", Boundaries::three, word -> Math.min(0, word.read(2, 12, 11)), 0);
    }

    // ---- Promise 13 ----

    @Of(part = "Terms", says = "MISSED: a row of GAPS (1 to 10, each 1 to 63)")
    static void p13RowsOf1To10() {
        OneWord word = crowd(2);
        for (int n = 1; n <= 10; n++) due("of " + n, missed(word, 0, 0, -1, gapsThenMeanings(n, 2, 0)), 2 * n);
        tape(word, gapsThenMeanings(11, 2, 0));
        due("of 11", word.missed(0, 0, 11, -1), -1);
        due("of 0", word.missed(0, 0, 0, -1), -1);
        due("the tape stays", word.count(3), 40);
    }

    @Of(part = "Promise 13", says = "by the first n bytes of the tape (GAPS, 1 to 10)")
    static void p13GapsAre1To63() {
        OneWord word = crowd(1);
        due("0", missed(word, 0, 0, -1, 0, 0, 0), -2);
        due("1", missed(word, 0, 0, -1, 1, 0, 0), 0);
        due("63", missed(word, 0, 0, -1, 63, 0, 0), 62);
        due("64", missed(word, 0, 0, -1, 64, 0, 0), -2);
        due("255", missed(word, 0, 0, -1, 255, 0, 0), -2);
        int[] last = gapsThenMeanings(10, 1, 0);
        last[9] = 63;
        due("the last of ten", missed(word, 0, 0, -1, last), 62);
        last[9] = 64;
        due("the last of ten, 64", missed(word, 0, 0, -1, last), -2);
        last[9] = 0;
        due("the last of ten, 0", missed(word, 0, 0, -1, last), -2);
    }

    @Of(part = "Promise 13", says = "then n and 1 bytes (MEANINGS; empty then)")
    static void p13MeaningsAre0To32OneMoreThanGaps() {
        OneWord word = crowd(2, "m31(w=1)");
        due("0 and 0", missed(word, 0, 0, -1, 2, 0, 0), 1);
        due("31 and 0", missed(word, 0, 0, -1, 2, 31, 0), 1);
        due("0 and 31", missed(word, 0, 0, -1, 2, 0, 31), 0);
        due("any and any", missed(word, 0, 0, -1, 2, ANY, ANY), 2);
        due("33 and any", missed(word, 0, 0, -1, 2, 33, ANY), -2);
        due("any and 33", missed(word, 0, 0, -1, 2, ANY, 33), -2);
        due("any and 255", missed(word, 0, 0, -1, 2, ANY, 255), -2);
        tape(word, 2, ANY, ANY, 33);
        due("what is behind them is not asked", word.missed(0, 0, 1, -1), 2);
        due("empty then", word.count(3), 0);
        int[] ten = gapsThenMeanings(10, 2, ANY);
        ten[20] = 33;
        due("the eleventh of ten", missed(word, 0, 0, -1, ten), -2);
    }

    @Of(part = "Promise 13", says = "-2: no such GAPS, MEANINGS")
    static void p13NoSuchGapsChangeNothingElse() {
        int[][] bad = {{0, 5, 5}, {64, 5, 5}, {5, 33, 5}, {5, 5, 33}, {5, 0, 5, 5, 5}, {5, 5, 5, 5, 255}};
        for (int[] b : bad) {
            takesTheTape("ways of " + b.length, Boundaries::threeWithoutTape, word -> missed(word, 0, 0, -1, b), -2);
            takesTheTape("the first of " + b.length, Boundaries::threeWithoutTape, word -> missed(word, 0, 0, 2, b), -2);
        }
    }

    @Of(part = "Terms", says = "in which one SAYING was missed: one GAP (2 at least) was two, by any MOUTH at any BREATH within it")
    static void p13AGapOf2AtLeast() {
        OneWord word = crowd(2);
        due("of 1", missed(word, 0, 0, -1, 1, 0, 0), 0);
        due("of 2 at one breath by two", missed(word, 0, 0, -1, 2, 0, 0), 2);
        due("of 3 at two breaths by two", missed(word, 0, 0, -1, 3, 0, 0), 4);
        due("of ones and a 2", missed(word, 0, 0, -1, 1, 1, 2, 1, 0, 0, 0, 0, 0), 2);
        due("which is it", missed(word, 0, 0, 0, 1, 1, 2, 1, 0, 0, 0, 0, 0), 2);
        due("of ones alone", missed(word, 0, 0, -1, gapsThenMeanings(10, 1, ANY)), 0);
    }

    @Of(part = "Promise 13", says = "what NONE in how many ways")
    static void p13FromNoneToTheMost() {
        OneWord word = crowd(8);
        due("none", missed(word, 0, 0, -1, 9, 1, 0), 0);
        due("the most", missed(word, 0, 0, -1, gapsThenMeanings(10, 63, ANY)), 10 * 62 * 8);
    }

    @Of(part = "Promise 13", says = "0 the GAP, 1 BREATHS of it ahead of what was missed, 2 who, of the first")
    static void p13OfTheFirst() {
        OneWord word = crowd(8, "m1(w=7)");
        int[] bytes = gapsThenMeanings(10, 63, 0);
        bytes[19] = 1;
        due("in the last gap, as 7 is heard there", missed(word, 0, 0, 0, bytes), 9);
        due("a breath in", missed(word, 0, 0, 1, bytes), 1);
        due("by 7", missed(word, 0, 0, 2, bytes), 7);
        due("in so many ways", missed(word, 0, 0, -1, bytes), 62);
        OneWord late = crowd(1, "m1(g=62)");
        due("at the last breath of it", missed(late, 0, 0, 1, 63, 1, 0), 62);
        due("at the first", missed(late, 0, 0, 1, 63, 0, 1), 1);
    }

    @Of(part = "Terms", says = "the first of these (by GAP, then BREATH, then MOUTH)")
    static void p13ByGapThenBreathThenMouth() {
        OneWord breath = crowd(2, "m5(g=1&w=1|g=2&w=0)");
        due("two ways", missed(breath, 0, 0, -1, 3, 5, ANY), 2);
        due("the earlier", missed(breath, 0, 0, 1, 3, 5, ANY), 1);
        due("though by the higher mouth", missed(breath, 0, 0, 2, 3, 5, ANY), 1);
        OneWord gap = crowd(2, "m5(g=1)");
        due("four ways", missed(gap, 0, 0, -1, 3, 3, ANY, 5, ANY), 4);
        due("the lower gap", missed(gap, 0, 0, 0, 3, 3, ANY, 5, ANY), 0);
        due("though later in it", missed(gap, 0, 0, 1, 3, 3, ANY, 5, ANY), 2);
        due("the lowest mouth", missed(gap, 0, 1, 2, 3, 3, ANY, 5, ANY), 0);
    }

    @Of(part = "Terms", says = "all others said by one told MOUTH")
    static void p13AllOthersByTheToldMouth() {
        OneWord word = crowd(3, "mw(1=1)");
        due("by 2", missed(word, 0, 2, -1, 3, 4, 2, 2, 2), 2 + 3);
        due("another first", missed(word, 0, 2, -1, 3, 4, 1, 2, 2), 2);
        due("another in the middle", missed(word, 0, 2, -1, 3, 4, 2, 1, 2), 3);
        due("another last can't be missed", missed(word, 0, 2, -1, 3, 4, 2, 2, 1), 0);
        due("nor two others", missed(word, 0, 2, -1, 3, 4, 1, 1, 2), 0);
    }

    @Of(part = "Promise 13", says = "all others said by a MOUTH (within RANGE)")
    static void p13TheToldMouthIsWithinRange() {
        OneWord word = line(0, 5);
        word.air(5, 1);
        due("at RANGE", missed(word, 0, 1, -1, 2, 0, 0), 2);
        word.air(4, 1);
        due("beyond it", missed(word, 0, 1, -1, 2, 0, 0), -1);
        due("the tape stays", word.count(3), 20);
        due("itself", word.missed(0, 0, 1, -1), 1);
        refused("beyond RANGE", three -> three.missed(1, 2, 1, -1), -1);
        refused("of it", three -> three.missed(2, 1, 1, 0), -1);
        takesTheTape("at RANGE", Boundaries::three, three -> Math.min(0, three.missed(0, 2, 1, -1)), 0);
    }

    @Of(part = "Promise 13", says = "MISSED for an EAR")
    static void p13WhatTheEarWouldNotHearIsNotMissed() {
        OneWord word = line(0, 5, -6);
        int[][] at = {{0, 1}, {4, 1}, {5, 2}, {6, 3}};
        for (int[] a : at) {
            word.air(a[0], 1);
            due("at a RANGE of " + a[0], missed(word, 0, 0, -1, 2, 0, 0), a[1]);
        }
    }

    @Of(part = "Promise 13", says = "MISSED for an EAR")
    static void p13BehindTheLastHearingOrNone() {
        OneWord word = line(0, 5);
        tongue(word, "m9(l=8&p=63);ml+p/2(1=1)");
        due("none", missed(word, 0, 0, -1, 2, 9, ANY), 2);
        word.say(1, 0);
        due("none is no more", missed(word, 0, 0, -1, 2, 9, ANY), 0);
        word.say(1, 8);
        due("behind the last one", missed(word, 0, 0, -1, 2, 5, ANY), 2);
    }

    @Of(part = "Promise 13", says = "-3: none, for 0 to 2")
    static void p13NoneFor0To2() {
        for (int what = 0; what <= 2; what++) {
            int asked = what;
            takesTheTape("none, " + what, Boundaries::threeWithoutTape, word -> missed(word, 0, 0, asked, 1, ANY, ANY), -3);
        }
        due("but so many", missed(three(), 0, 0, -1, 1, ANY, ANY), 0);
    }

    @Of(part = "Terms", says = "in how many ways the MEANINGS, one more of them, are what was told (32: any): which GAP, where in it, who;")
    static void p13EachMustMeanWhatWasTold() {
        OneWord word = crowd(2, "mg(1=1)");
        due("7 and 4 were 7 and 1 and 3", missed(word, 0, 0, -1, 7, 4, 7, 1, 3), 2);
        due("not so the first", missed(word, 0, 0, -1, 7, 4, 6, 1, 3), 0);
        due("not so the second", missed(word, 0, 0, -1, 7, 4, 7, 2, 3), 0);
        due("not so the last", missed(word, 0, 0, -1, 7, 4, 7, 1, 4), 0);
        due("which gap", missed(word, 0, 0, 0, 7, 4, 7, 1, 3), 1);
        due("where in it", missed(word, 0, 0, 1, 7, 4, 7, 1, 3), 1);
        due("who", missed(word, 0, 0, 2, 7, 4, 7, 1, 3), 0);
        due("the last is any", missed(word, 0, 0, -1, 7, 4, 7, 1, ANY), 2);
        due("the first is any: also 1 and 6 and 4", missed(word, 0, 0, -1, 7, 4, ANY, ANY, 3), 2);
        due("all are any", missed(word, 0, 0, -1, 7, 4, ANY, ANY, ANY), 2 * (6 + 3));
    }

    @Of(part = "Terms", says = "in how many ways the MEANINGS, one more of them, are what was told (32: any): which GAP, where in it, who;")
    static void p13EachBehindTheGapAheadOfIt() {
        // what is said means the gap ahead of it: 63 - 32, then that of the one before
        OneWord word = crowd(1, "mp%32(1=1)");
        int[][] told = {{31, 1, 3, 5, 6, 0, 1}, {31, 4, 2, 3, 6, 1, 2}, {31, 4, 5, 4, 2, 2, 4}, {31, 4, 5, 6, 1, 3, 1}};
        for (int[] t : told) {
            int[] row = {4, 5, 6, 7, t[0], t[1], t[2], t[3], t[4]};
            due("one way", missed(word, 0, 0, -1, row), 1);
            due("the gap", missed(word, 0, 0, 0, row), t[5]);
            due("where in it", missed(word, 0, 0, 1, row), t[6]);
        }
        due("the last is not so", missed(word, 0, 0, -1, 4, 5, 6, 7, 31, 1, 3, 5, 7), 0);
        due("the last but one is not so", missed(word, 0, 0, -1, 4, 5, 6, 7, 31, 1, 3, 4, 6), 0);
    }

    @Of(part = "Terms", says = "all others said by one told MOUTH")
    static void p13EachBehindWhoIsAheadOfIt() {
        // what is said means who is ahead of it, and 1
        OneWord word = crowd(3, "ml+1(1=1)");
        for (int gap = 0; gap < 4; gap++) {
            int[] row = {2, 2, 2, 2, 9, 3, 3, 3, 3};
            row[5 + gap] = 2;
            due("one way", missed(word, 0, 2, -1, row), 1);
            due("the gap", missed(word, 0, 2, 0, row), gap);
            due("by 1", missed(word, 0, 2, 2, row), 1);
        }
        due("by 2 itself in any gap", missed(word, 0, 2, -1, 2, 2, 2, 2, 9, 3, 3, 3, 3), 4);
        due("not by two others", missed(word, 0, 2, -1, 2, 2, 2, 2, 9, 2, 2, 3, 3), 0);
    }

    @Of(part = "Terms", says = "in how many ways the MEANINGS, one more of them, are what was told (32: any): which GAP, where in it, who;")
    static void p13EachByItsOwnGap() {
        OneWord word = crowd(1, "mg(1=1)");
        int[][] told = {{1, 3, 5, 6, 7, 0, 1}, {4, 2, 3, 6, 7, 1, 2}, {4, 5, 4, 2, 7, 2, 4}, {4, 5, 6, 1, 6, 3, 1}};
        for (int[] t : told) {
            int[] row = {4, 5, 6, 7, t[0], t[1], t[2], t[3], t[4]};
            due("one way", missed(word, 0, 0, -1, row), 1);
            due("the gap", missed(word, 0, 0, 0, row), t[5]);
            due("where in it", missed(word, 0, 0, 1, row), t[6]);
            row[8]++;
            due("the last is not so", missed(word, 0, 0, -1, row), 0);
        }
    }

    @Of(part = "Promise 13", says = "by the first n bytes of the tape (GAPS, 1 to 10)")
    static void p13ABadRowIsForgotten() {
        OneWord word = crowd(1);
        for (int n = 10; n >= 2; n--) {
            due("a bad row of " + n, missed(word, 0, 0, -1, gapsThenMeanings(n, 64, 33)), -2);
            due("a good one of " + (n - 1), missed(word, 0, 0, -1, gapsThenMeanings(n - 1, 2, 0)), n - 1);
        }
    }

    @Of(part = "Promise 13", says = "NONE also: no such ones")
    static void p13NoSuchMissedChangesNothing() {
        int[][] bad = {{-1, 0, 1, -1}, {3, 0, 1, -1}, {8, 0, 1, -1}, {0, -1, 1, -1}, {0, 3, 1, -1}, {0, 8, 1, -1}, {0, 0, 0, -1}, {0, 0, -1, -1},
            {0, 0, 11, -1}, {0, 0, 1, -2}, {0, 0, 1, 3}, {LEAST, 0, 1, -1}, {MOST, 0, 1, -1}, {0, LEAST, 1, -1}, {0, MOST, 1, -1},
            {0, 0, LEAST, -1}, {0, 0, MOST, -1}, {0, 0, 0x40000000, -1}, {0, 0, 1, LEAST}, {0, 0, 1, MOST}};
        for (int[] b : bad) {
            refused("missed " + b[0] + " " + b[1] + " " + b[2] + " " + b[3], word -> word.missed(b[0], b[1], b[2], b[3]), -1);
        }
    }

    @Of(part = "Promise 13", says = "it has not so many (the tape stays)")
    static void p13MoreThanTheTapeHas() {
        refused("10 of twenty bytes", Boundaries::threeWithShortTape, word -> word.missed(0, 0, 10, -1), -1);
        refused("1 of none", Boundaries::threeWithoutTape, word -> word.missed(0, 0, 1, -1), -1);
        OneWord word = crowd(1, "m2(1=1)");
        tape(word, row(20, 2));
        due("9 of twenty bytes", word.missed(0, 0, 9, -1), 9);
    }
}
