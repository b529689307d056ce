/** Boundaries of the crowd: who is out soonest, who speaks by rules, tables of gaps and what a breath makes alike. */
final class BoundariesOfCrowd extends Boundaries {
    private BoundariesOfCrowd() {}

    /** The first one means 7, each further one its gap. */
    private static final String BY_GAP = "m7(g=63);mg(1=1)";

    // ---- Promise 14 ----

    @Of(part = "Terms", says = "SOONEST: some MOUTHS (bits, 1 to 4 of them)")
    static void p14Of1To4Mouths() {
        OneWord word = crowd(8, "m1(1=1)");
        for (int i = 0; i < 8; i++) sentence(word, i, 1);
        int[][] of = {{0, -3}, {1, 0}, {128, 0}, {3, 1}, {7, 2}, {15, 3}, {240, 3}, {0x99, 3}, {31, -3}, {248, -3}, {255, -3}, {256, -3}, {257, -3}};
        for (int[] o : of) due("bits " + o[0], word.soonest(o[0], -1), o[1]);
    }

    @Of(part = "Promise 14", says = "-3: no such ones")
    static void p14NoSuchMouthsChangeNothing() {
        int[] bits = {0, 8, 9, 15, 128, 256, -1, -8, LEAST, MOST};
        for (int b : bits) refused("bits " + b, word -> word.soonest(b, -1), -3);
        refused("five of eight", Boundaries::talkers, word -> word.soonest(31, -1), -3);
        due("of nobody", new OneWord().soonest(1, -1), -3);
        due("of nobody, none", new OneWord().soonest(0, -1), -3);
    }

    @Of(part = "Promise 14", says = "what NONE BREATHS, 100 + i who speaks, 200 + i THE GAP of SAYING i (63: the first one)")
    static void p14FromTheFirstSayingToTheLast() {
        OneWord word = crowd(2, BY_GAP);
        sentence(word, 0, 7, 4);
        sentence(word, 1, 2);
        due("breaths", word.soonest(3, -1), 6);
        int[] who = {-3, 0, 0, 1, -3};
        int[] gaps = {-3, 63, 4, 2, -3};
        for (int i = -1; i <= 3; i++) {
            due("who " + i, word.soonest(3, 100 + i), who[i + 1]);
            due("gap " + i, word.soonest(3, 200 + i), gaps[i + 1]);
        }
    }

    @Of(part = "Promise 14", says = "no such SAYING")
    static void p14Of16SayingsAndNoMore() {
        OneWord word = crowd(4, "m1(1=1)");
        for (int i = 0; i < 4; i++) sentence(word, i, 1, 1, 1, 1);
        due("breaths", word.soonest(15, -1), 15);
        due("who is first", word.soonest(15, 100), 0);
        due("who is last", word.soonest(15, 115), 3);
        due("none behind", word.soonest(15, 116), -3);
        due("the last gap", word.soonest(15, 215), 1);
        due("none behind", word.soonest(15, 216), -3);
    }

    @Of(part = "Promise 14", says = "no such SAYING")
    static void p14NoSuchSayingChangesNothing() {
        int[] whats = {-2, 0, 1, 99, 103, 199, 203, 300, LEAST, MOST, LEAST + 100, LEAST + 200};
        for (int what : whats) refused("what " + what, word -> word.soonest(3, what), -3);
    }

    @Of(part = "Promise 14", says = "SOONEST of MOUTHS (bits)")
    static void p14NothingToSay() {
        OneWord word = crowd(2, "m1(1=1)");
        due("no breaths", word.soonest(3, -1), 0);
        due("no first speaker", word.soonest(3, 100), -3);
        due("no first gap", word.soonest(3, 200), -3);
        sentence(word, 1, 1);
        due("one saying takes no breath", word.soonest(3, -1), 0);
        due("its speaker", word.soonest(3, 100), 1);
        due("its gap", word.soonest(3, 200), 63);
        due("none behind", word.soonest(3, 101), -3);
    }

    @Of(part = "Promise 14", says = "200 + i THE GAP of SAYING i (63: the first one)")
    static void p14OfOneSayingWhoeverSaysIt() {
        for (int mouth = 0; mouth < 4; mouth++) {
            OneWord word = crowd(4, "m1(1=1)");
            sentence(word, mouth, 1);
            due("who", word.soonest(15, 100), mouth);
            due("the gap", word.soonest(15, 200), 63);
            due("breaths", word.soonest(15, -1), 0);
        }
    }

    @Of(part = "Promise 14", says = "-2: it can't be")
    static void p14ItCanNotBe() {
        OneWord word = crowd(2, BY_GAP);
        sentence(word, 0, 8);
        due("the first has a gap of 63 alone", word.soonest(1, -1), -2);
        due("so there is no speaker", word.soonest(1, 100), -2);
        due("nor a gap", word.soonest(1, 200), -2);
        sentence(word, 0, 7, 31);
        due("nor has a further one that", word.soonest(1, -1), -2);
        due("no second", word.soonest(1, 101), -2);
        sentence(word, 0, 7, 1);
        due("now it can", word.soonest(1, -1), 1);
        OneWord none = crowd(1);
        sentence(none, 0, 1);
        due("without a tongue nothing means 1", none.soonest(1, -1), -2);
    }

    @Of(part = "Terms", says = "each further one a GAP of 1 to 20")
    static void p14GapsAre1To20() {
        OneWord word = crowd(1, BY_GAP);
        sentence(word, 0, 7, 1);
        due("1", word.soonest(1, -1), 1);
        sentence(word, 0, 7, 19);
        due("19", word.soonest(1, -1), 19);
        sentence(word, 0, 7, 20);
        due("20", word.soonest(1, -1), 20);
        due("it is told", word.soonest(1, 201), 20);
        sentence(word, 0, 7, 21);
        due("21", word.soonest(1, -1), -2);
        OneWord none = crowd(1, "m7(g=63);m1(g=0|g>20)");
        sentence(none, 0, 7, 1);
        due("neither below nor above", none.soonest(1, -1), -2);
        sentence(word, 0, 7, 20, 20, 20);
        due("three times 20", word.soonest(1, -1), 60);
    }

    @Of(part = "Terms", says = "each further one a GAP of 1 to 20")
    static void p14NotTwoInOneBreath() {
        // if 1 could begin, as by a gap of 0, it would take one breath
        OneWord word = crowd(2, "m7(w=0&g=63|g=1);m1(g=0|g=2)");
        sentence(word, 0, 7);
        sentence(word, 1, 1);
        due("two breaths", word.soonest(3, -1), 2);
        due("0 begins", word.soonest(3, 100), 0);
        due("1 goes on", word.soonest(3, 201), 2);
    }

    @Of(part = "Terms", says = "each further one a GAP of 1 to 20")
    static void p14BehindAGapOf20() {
        OneWord word = crowd(2, "m1(l=8);m2(w=0&g=20);m3(w=1&l=0&p=20&g=2)");
        sentence(word, 0, 1, 2);
        sentence(word, 1, 3);
        int[] who = {0, 0, 1};
        int[] gaps = {63, 20, 2};
        due("breaths", word.soonest(3, -1), 22);
        for (int i = 0; i < 3; i++) {
            due("who " + i, word.soonest(3, 100 + i), who[i]);
            due("gap " + i, word.soonest(3, 200 + i), gaps[i]);
        }
    }

    @Of(part = "Terms", says = "THE CROWD: all HEAR all at once (THE WAY 0, no RANGE asked; the EAR of all is the speaker's own: e is w)")
    static void p14AllHearAllAtOnce() {
        OneWord word = new OneWord();
        word.mouth(-50, -50, 0);
        word.mouth(50, 50, 0);
        word.air(0, 1);
        tongue(word, "m1(d=0&e=w);r1(d=0&e=w)");
        sentence(word, 0, 1);
        sentence(word, 1, 1);
        due("soonest", word.soonest(3, -1), 1);
        due("by rules", word.byRules(3, 9, 0), 1);
    }

    @Of(part = "Terms", says = "From its beginning nothing was heard; the first SAYING has GAP 63 at whatever BREATH 0")
    static void p14FromItsBeginningNothingWasHeard() {
        OneWord word = crowd(1, "m1(l=8&p=63&g=63&s=0);m2(l=0&p=63&s=1);r1(1=1)");
        sentence(word, 0, 1, 2);
        word.say(0, 5);
        word.say(0, 7);
        due("soonest", word.soonest(1, -1), 1);
        due("its first gap", word.soonest(1, 200), 63);
        due("by rules", word.byRules(1, 9, 0), 1);
    }

    @Of(part = "Terms", says = "say their SENTENCES, each MEANING in its order, one SAYING for each")
    static void p14EachInItsOrder() {
        OneWord word = crowd(1, BY_GAP);
        sentence(word, 0, 7, 3, 1, 2);
        int[] gaps = {63, 3, 1, 2};
        due("breaths", word.soonest(1, -1), 6);
        for (int i = 0; i < 4; i++) due("gap " + i, word.soonest(1, 200 + i), gaps[i]);
        sentence(word, 0, 3, 7);
        due("not in another one", word.soonest(1, -1), -2);
    }

    @Of(part = "Terms", says = "of like ones the least row of who speaks, then of GAPS")
    static void p14OfLikeOnesTheLeastRow() {
        OneWord word = crowd(4, "m1(1=1)");
        sentence(word, 3, 1);
        sentence(word, 1, 1, 1);
        due("the lowest first", word.soonest(10, 100), 1);
        due("and on", word.soonest(10, 101), 1);
        due("then the other", word.soonest(10, 102), 3);
        // three breaths by 0 0 1 with gaps 2 1, or by 0 1 0 with gaps 1 2
        tongue(word, "m1(g=63);m2(w=0&l=0&g=2);m3(w=1&l=0&g=1);m2(w=0&l=1&g=2)");
        sentence(word, 0, 1, 2);
        sentence(word, 1, 3);
        due("three breaths", word.soonest(3, -1), 3);
        due("who speaks comes ahead of the gaps", word.soonest(3, 101), 0);
        due("though its gap is longer", word.soonest(3, 201), 2);
        // four breaths by gaps 1 3 or 2 2 or 3 1
        OneWord one = crowd(1, "m1(g=63);m2(p=63);m3(g+p=4)");
        sentence(one, 0, 1, 2, 3);
        due("four breaths", one.soonest(1, -1), 4);
        due("the least gaps", one.soonest(1, 201), 1);
        due("and what follows", one.soonest(1, 202), 3);
    }

    @Of(part = "Terms", says = "nobody says anything else, in any order among them: the least BREATHS (GAPS but the first one's) till all are said")
    static void p14InAnyOrderTheLeastBreaths() {
        // 9 behind itself takes five breaths, behind the other one: so they speak by turns
        OneWord word = crowd(2, "m9(l=8);m9(s=0);m9(s=1&g=5)");
        sentence(word, 0, 9, 9);
        sentence(word, 1, 9, 9);
        due("by turns", word.soonest(3, -1), 3);
        int[] who = {0, 1, 0, 1};
        for (int i = 0; i < 4; i++) due("who " + i, word.soonest(3, 100 + i), who[i]);
        due("alone", word.soonest(1, -1), 5);
        due("the first gap takes no breath", word.soonest(1, 200), 63);
        // who has no word left can't speak between
        sentence(word, 1, 9);
        sentence(word, 0, 9, 9, 9);
        due("but once", word.soonest(3, -1), 1 + 1 + 5);
    }

    @Of(part = "Terms", says = "the least BREATHS (GAPS but the first one's) till all are said")
    static void p14OneBreathLessIsSooner() {
        // by 0 0 1 it takes 2 and 1, by 0 1 0 it takes 1 and 1
        OneWord word = crowd(2, "m1(l=8);m3(w=1&g=1);m2(s=1&g=2|s=0&g=1)");
        sentence(word, 0, 1, 2);
        sentence(word, 1, 3);
        due("two breaths", word.soonest(3, -1), 2);
        due("the other between", word.soonest(3, 101), 1);
        // by gaps 1 and 4, or by 3 and 1
        OneWord one = crowd(1, "m1(l=8);m2(p=63&g=1|p=63&g=3);m3(p=1&g=4|p=3&g=1)");
        sentence(one, 0, 1, 2, 3);
        due("four breaths", one.soonest(1, -1), 4);
        due("though the first gap is longer", one.soonest(1, 201), 3);
    }

    @Of(part = "Terms", says = "of like ones the least row of who speaks, then of GAPS")
    static void p14TheLeastGapsByWhichTheseCanSpeak() {
        // four breaths by 0 0 1 2 with gaps 2 1 1, or by 0 0 2 1 with gaps 1 2 1
        OneWord word = crowd(3, "m1(l=8);m2(w=0&l=0&g<3);m4(w=2&l=0&p=1&g=2|w=2&l=1&g=1);m3(w=1&l=2&g=1|w=1&l=0&p=2&g=1)");
        sentence(word, 0, 1, 2);
        sentence(word, 1, 3);
        sentence(word, 2, 4);
        int[] who = {0, 0, 1, 2};
        int[] gaps = {63, 2, 1, 1};
        due("breaths", word.soonest(7, -1), 4);
        for (int i = 0; i < 4; i++) {
            due("who " + i, word.soonest(7, 100 + i), who[i]);
            due("gap " + i, word.soonest(7, 200 + i), gaps[i]);
        }
    }

    @Of(part = "Promise 14", says = "SOONEST of MOUTHS")
    static void p14WhatWasFoundBeforeIsNotToldAgain() {
        OneWord word = crowd(2, BY_GAP);
        sentence(word, 0, 7, 4);
        sentence(word, 1, 7, 5);
        due("of 0", word.soonest(1, -1), 4);
        due("of 1", word.soonest(2, -1), 5);
        due("of both: the second 7 by a gap of 7", word.soonest(3, -1), 4 + 7 + 5);
        sentence(word, 0, 7, 9);
        due("another sentence", word.soonest(1, -1), 9);
        due("a bad one", sentence(word, 0, 32), -2);
        due("leaves it", word.soonest(1, -1), 9);
        tongue(word, "m7(g=63);mg*3(1=1)");
        due("another tongue", word.soonest(1, -1), 3);
        due("a bad one", tongue(word, "m"), -1001);
        due("leaves it", word.soonest(1, -1), 3);
    }

    // ---- Promise 15 ----

    @Of(part = "Terms", says = "or so many BREATHS (1 to 400) are over")
    static void p15Of1To400Breaths() {
        OneWord word = crowd(2, "m1(1=1);r1(g=57|l=8)");
        sentence(word, 0, 1, 1, 1, 1);
        sentence(word, 1, 1, 1, 1, 1);
        due("0", word.byRules(3, 0, 1), -1);
        due("1", word.byRules(3, 1, 1), 1);
        due("399: the last one is not said", word.byRules(3, 399, 0), -2);
        due("but seven are", word.byRules(3, 399, 1), 7);
        due("400: it is said in breath 399", word.byRules(3, 400, 0), 399);
        due("401", word.byRules(3, 401, 0), -1);
    }

    @Of(part = "Promise 15", says = "BY RULES of MOUTHS (bits, not empty)")
    static void p15From1To255() {
        OneWord word = crowd(8, "m1(1=1);r1(1=1)");
        for (int i = 0; i < 8; i++) sentence(word, i, 1);
        due("0: empty", word.byRules(0, 9, 1), -1);
        due("1", word.byRules(1, 9, 1), 1);
        due("128", word.byRules(128, 9, 1), 1);
        due("255", word.byRules(255, 9, 1), 8);
        due("256", word.byRules(256, 9, 1), -1);
        due("257", word.byRules(257, 9, 1), -1);
        due("eight breaths", word.byRules(255, 8, 0), 7);
        due("seven are too few", word.byRules(255, 7, 0), -2);
    }

    @Of(part = "Promise 15", says = "NONE: no such ones")
    static void p15NoSuchRulesChangeNothing() {
        int[][] bad = {{0, 9, 0}, {8, 9, 0}, {9, 9, 0}, {256, 9, 0}, {-1, 9, 0}, {LEAST, 9, 0}, {MOST, 9, 0}, {1, 0, 0}, {1, -1, 0}, {1, 401, 0},
            {1, LEAST, 0}, {1, MOST, 0}, {1, 9, -1}, {1, 9, 3}, {1, 9, LEAST}, {1, 9, MOST}};
        for (int[] b : bad) refused("byRules " + b[0] + " " + b[1] + " " + b[2], word -> word.byRules(b[0], b[1], b[2]), -1);
        due("of nobody", new OneWord().byRules(1, 1, 0), -1);
    }

    @Of(part = "Promise 15", says = "what 0 at which BREATH the last one was said (-2: not all; none to be said: 0)")
    static void p15NotAllOrNoneToBeSaid() {
        OneWord word = crowd(2, "m1(1=1);r1(w=0)");
        due("none to be said", word.byRules(3, 1, 0), 0);
        sentence(word, 0, 1);
        due("one, at breath 0", word.byRules(3, 1, 0), 0);
        sentence(word, 0, 1, 1);
        due("not both in one breath", word.byRules(3, 1, 0), -2);
        due("but in two", word.byRules(3, 2, 0), 1);
        sentence(word, 1, 1);
        due("1 never speaks", word.byRules(3, 400, 0), -2);
        due("0 alone is not asked about it", word.byRules(1, 400, 0), 1);
    }

    @Of(part = "Promise 15", says = "what 0 at which BREATH the last one was said (-2: not all; none to be said: 0)")
    static void p15NoneToBeSaidBehindSomeThatWere() {
        OneWord word = crowd(2, "m1(1=1);r1(1=1)");
        sentence(word, 0, 1, 1, 1);
        due("of three", word.byRules(1, 9, 0), 2);
        due("of none", word.byRules(2, 9, 0), 0);
        due("none were", word.byRules(2, 9, 1), 0);
        due("no sayings", word.byRules(2, 9, 2), 0);
    }

    @Of(part = "Promise 15", says = "1 how many MEANINGS were said, 2 how many SAYINGS there were")
    static void p15SayingsThatMeanNothingCount() {
        OneWord word = crowd(1, "m1(g=63);m2(l=0&g=1&p=1);r1(1=1)");
        sentence(word, 0, 1, 2);
        int[][] by = {{1, 1, 1, -2}, {2, 1, 2, -2}, {3, 2, 3, 2}, {400, 2, 3, 2}};
        for (int[] b : by) {
            due("said in " + b[0], word.byRules(1, b[0], 1), b[1]);
            due("sayings in " + b[0], word.byRules(1, b[0], 2), b[2]);
            due("the last in " + b[0], word.byRules(1, b[0], 0), b[3]);
        }
        OneWord nothing = crowd(1, "r1(1=1)");
        sentence(nothing, 0, 1);
        due("400 for nothing", nothing.byRules(1, 400, 2), 400);
        due("none said", nothing.byRules(1, 400, 1), 0);
    }

    @Of(part = "Terms", says = "BY RULES: in each BREATH from 0 on, of those with MEANINGS left whose r is above 0")
    static void p15AboveZero() {
        String[] wishes = {"0-1", "0", "1"};
        for (int i = 0; i < 3; i++) {
            OneWord word = crowd(1, "m1(1=1);r" + wishes[i] + "(1=1)");
            sentence(word, 0, 1);
            due("by " + wishes[i], word.byRules(1, 5, 2), i < 2 ? 0 : 1);
        }
        OneWord done = crowd(2, "m1(w=0);r9(w=0);r1(1=1)");
        sentence(done, 0, 1);
        sentence(done, 1, 1);
        due("who has none left speaks no more", done.byRules(3, 5, 2), 5);
        due("so the other does, in vain", done.byRules(3, 5, 1), 1);
    }

    @Of(part = "Terms", says = "(GAP as it would be, 63 at most; at first 63)")
    static void p15GapsUpTo63() {
        OneWord word = crowd(1, "m1(1=1);r1(l=8&g=63&p=63);r1(g=63)");
        sentence(word, 0, 1, 1);
        due("the first at 0, the second 63 later", word.byRules(1, 400, 0), 63);
        OneWord most = crowd(1, "m1(1=1);r1(l=8);r1(g=64)");
        sentence(most, 0, 1, 1);
        due("never 64", most.byRules(1, 400, 2), 1);
        OneWord next = crowd(1, "m1(1=1);r1(l=8);r1(g=1);r1(g=0)");
        sentence(next, 0, 1, 1);
        due("1 at least", next.byRules(1, 400, 0), 1);
    }

    @Of(part = "Terms", says = "the one of most r speaks, of like ones the lowest")
    static void p15TheMostAndOfLikeOnesTheLowest() {
        OneWord word = crowd(3, "mw+1(1=1);r5(w=0);r6(1=1)");
        sentence(word, 0, 1);
        sentence(word, 1, 9);
        sentence(word, 2, 3);
        due("1 speaks in vain", word.byRules(7, 1, 1), 0);
        sentence(word, 1, 2);
        due("1 speaks", word.byRules(7, 1, 1), 1);
        due("then 2, then 0", word.byRules(7, 3, 0), 2);
        tongue(word, "mw+1(1=1);r6(1=1)");
        sentence(word, 1, 9);
        due("0 is the lowest", word.byRules(7, 1, 1), 1);
        due("then 1, in vain for ever", word.byRules(7, 400, 1), 1);
    }

    @Of(part = "Terms", says = "if it MEANS its next MEANING this is said; it goes on till all are said")
    static void p15ItGoesOnTillAllAreSaid() {
        OneWord word = crowd(1, "m9(l=8);mg(1=1);r1(1=1)");
        sentence(word, 0, 9, 1, 1, 1);
        due("the fourth at 3", word.byRules(1, 400, 0), 3);
        due("no saying behind it", word.byRules(1, 400, 2), 4);
        due("in three breaths not all", word.byRules(1, 3, 0), -2);
        due("in four", word.byRules(1, 4, 0), 3);
    }

    // ---- Promise 16 ----

    private static int table(int k, int what, int... uses) {
        OneWord word = new OneWord();
        tape(word, uses);
        return word.table(uses.length, k, what);
    }

    @Of(part = "Promise 16", says = "A TABLE by the first n bytes of the tape (uses; 1 to 12; empty then)")
    static void p16Of1To12Uses() {
        due("of 1", table(1, -1, 9), 9);
        due("of 12", table(1, -1, row(12, 1)), 78);
        OneWord word = new OneWord();
        tape(word, row(20, 1));
        due("of 0", word.table(0, 1, -1), -1);
        due("of 13", word.table(13, 1, -1), -1);
        due("the tape stays", word.count(3), 20);
        due("what is behind is not asked", word.table(2, 1, -1), 3);
        due("empty then", word.count(3), 0);
        tape(word, 5);
        due("one gap", word.table(1, 1, 1), 1);
        due("empty then, too", word.count(3), 0);
    }

    @Of(part = "Terms", says = "A TABLE: MEANINGS 1 to n (1 to 12) with told uses (0 to 255)")
    static void p16UsesAre0To255() {
        due("0", table(1, -1, 0), 0);
        due("1", table(1, -1, 1), 1);
        due("127 and 128", table(1, -1, 127, 128), 128 + 2 * 127);
        due("255", table(1, -1, 255), 255);
        due("255 is more than 0", table(1, 2, 0, 255), 1);
        due("all 0", table(5, -1, row(12, 0)), 0);
        due("all 255", table(5, -1, row(12, 255)), 255 * (12 + 5 * 66));
    }

    @Of(part = "Promise 16", says = "k apart")
    static void p16From1To5Apart() {
        OneWord word = new OneWord();
        tape(word, row(20, 1));
        due("0", word.table(2, 0, -1), -1);
        due("6", word.table(2, 6, -1), -1);
        due("the tape stays", word.count(3), 20);
        for (int k = 1; k <= 5; k++) {
            due("the second, " + k, table(k, 2, 1, 1), 1 + k);
            due("the twelfth, " + k, table(k, 12, row(12, 1)), 1 + 11 * k);
        }
    }

    @Of(part = "Terms", says = "any two at least k (1 to 5) apart: the least sum of uses times GAPS")
    static void p16NoOtherTableHasALessSum() {
        int[][] of = {{7, 7, 7}, {0, 9, 3}, {3, 2, 1}, {1, 2, 3}, {0, 0, 5}, {255, 1, 254}, {4, 4, 9}};
        for (int[] uses : of) {
            for (int k = 1; k <= 5; k++) {
                due("of " + uses[0] + " " + uses[1] + " " + uses[2] + ", " + k + " apart", table(k, -1, uses), leastOfAll(k, uses));
                int sum = 0;
                for (int i = 1; i <= 3; i++) sum += uses[i - 1] * table(k, i, uses);
                due("its gaps make that", sum, leastOfAll(k, uses));
            }
        }
    }

    private static int leastOfAll(int k, int[] uses) {
        int least = MOST;
        int most = 3 + 2 * k;
        for (int a = 1; a <= most; a++) for (int b = 1; b <= most; b++) for (int c = 1; c <= most; c++) {
            boolean apart = Math.abs(a - b) >= k && Math.abs(b - c) >= k && Math.abs(a - c) >= k;
            if (apart) least = Math.min(least, a * uses[0] + b * uses[1] + c * uses[2]);
        }
        return least;
    }

    @Of(part = "Terms", says = "GAPS from 1 on")
    static void p16GapsFrom1On() {
        for (int k = 1; k <= 5; k++) due("the most used, " + k, table(k, 3, 1, 2, 3), 1);
    }

    @Of(part = "Promise 16", says = "what NONE the sum, else THE GAP of MEANING what (1 to n)")
    static void p16From1ToN() {
        int[] want = {-1, 4 + 3 * 3 + 2 * 5, -1, 3, 5, 1, -1};
        for (int what = -2; what <= 4; what++) due("what " + what, table(2, what, 3, 2, 4), want[what + 2]);
        due("1 of 1", table(1, 1, 9), 1);
        due("2 of 1", table(1, 2, 9), -1);
        due("12 of 12", table(1, 12, row(12, 1)), 12);
        due("13 of 12", table(1, 13, row(12, 1)), -1);
    }

    @Of(part = "Terms", says = "THE GAP of each (of like uses the lower MEANING the lower GAP)")
    static void p16OfLikeUsesTheLower() {
        int[] gaps = {4, 1, 7, 10};
        for (int i = 1; i <= 4; i++) due("of " + i, table(3, i, 5, 9, 5, 5), gaps[i - 1]);
        for (int i = 1; i <= 12; i++) due("of twelve unused, " + i, table(1, i, row(12, 0)), i);
    }

    @Of(part = "Promise 16", says = "NONE also: no such ones")
    static void p16NoSuchTableChangesNothing() {
        int[][] bad = {{0, 1, -1}, {-1, 1, -1}, {13, 1, -1}, {LEAST, 1, -1}, {MOST, 1, -1}, {3, 0, -1}, {3, 6, -1}, {3, -1, -1}, {3, LEAST, -1},
            {3, MOST, -1}, {3, 1, -2}, {3, 1, 0}, {3, 1, 4}, {3, 1, LEAST}, {3, 1, MOST}};
        for (int[] b : bad) refused("table " + b[0] + " " + b[1] + " " + b[2], word -> word.table(b[0], b[1], b[2]), -1);
    }

    @Of(part = "Promise 16", says = "it has not so many (the tape stays)")
    static void p16OfAnEmptyTape() {
        refused("1 of none", Boundaries::threeWithoutTape, word -> word.table(1, 1, -1), -1);
        refused("12 of none", Boundaries::threeWithoutTape, word -> word.table(12, 5, 12), -1);
        takesTheTape("12 of twenty", Boundaries::threeWithShortTape, word -> word.table(12, 1, 12), 12);
    }

    // ---- Promise 17 ----

    private static int alike(int what, int... gaps) {
        OneWord word = new OneWord();
        tape(word, gaps);
        return word.alike(gaps.length, what);
    }

    @Of(part = "Promise 17", says = "ALIKE by the first n bytes of the tape (GAPS of MEANINGS 1 to n; 1 to 12; empty then)")
    static void p17Of1To12Gaps() {
        due("of 1", alike(4, 9), 0);
        due("of 12", alike(4, 1, 2, 3, 4, 5, 6, 7, 8, 9, 10, 11, 12), 121);
        OneWord word = new OneWord();
        tape(word, 1, 2, 3, 4, 5, 6, 7, 8, 9, 10, 11, 12, 13);
        due("of 0", word.alike(0, 4), -1);
        due("of 13", word.alike(13, 4), -1);
        due("the tape stays", word.count(3), 20);
        due("of two", word.alike(2, 4), 1);
        due("empty then", word.count(3), 0);
        tape(word, 1, 2, 2, 0);
        due("what is behind is not asked", word.alike(2, 4), 1);
    }

    @Of(part = "Promise 17", says = "-2: no such GAPS, two alike")
    static void p17GapsAre1To63AllUnlike() {
        due("0", alike(4, 0), -2);
        due("1", alike(4, 1), 0);
        due("63", alike(4, 63), 0);
        due("64", alike(4, 64), -2);
        due("255", alike(4, 255), -2);
        due("0 at the end", alike(4, 1, 2, 0), -2);
        due("62 and 63", alike(4, 62, 63), 1);
        due("63 and 64", alike(4, 63, 64), -2);
        due("two alike", alike(4, 5, 5), -2);
        due("the first and the last", alike(4, 5, 6, 7, 5), -2);
        due("the last two", alike(4, 5, 6, 7, 7), -2);
        for (int what = 0; what <= 4; what++) {
            int asked = what;
            takesTheTape("no such gaps, " + what, Boundaries::threeWithoutTape, word -> alikeOf(word, asked, 5, 64), -2);
            takesTheTape("two alike, " + what, Boundaries::threeWithoutTape, word -> alikeOf(word, asked, 5, 5), -2);
        }
    }

    private static int alikeOf(OneWord word, int what, int... gaps) {
        tape(word, gaps);
        return word.alike(gaps.length, what);
    }

    @Of(part = "Promise 17", says = "what 0 to 3 MEANINGS of the first and of the second SENTENCE; 4 how many such there are")
    static void p17WhatIs0To4() {
        // gaps 8, 3, 9, 4: 1 becomes 3 and 2 becomes 4, 3 becomes 1 and 4 becomes 2
        int[] want = {-1, 1, 3, 3, 1, 4, -1};
        for (int what = -1; what <= 5; what++) due("what " + what, alike(what, 8, 3, 9, 4), want[what + 1]);
    }

    @Of(part = "Terms", says = "one becomes the other if the SAYING between comes one BREATH late: the first GAP is one more, the second one less")
    static void p17OneMoreAndOneLess() {
        int[] up = {1, 2, 2, 1};
        int[] down = {2, 1, 1, 2};
        for (int what = 0; what < 4; what++) {
            due("gaps 5 and 6, " + what, alike(what, 5, 6), up[what]);
            due("gaps 6 and 5, " + what, alike(what, 6, 5), down[what]);
        }
        due("two apart", alike(4, 5, 7), 0);
        due("one apart", alike(4, 5, 6), 1);
    }

    @Of(part = "Terms", says = "the first such (by the first SENTENCE's MEANINGS)")
    static void p17TheFirstOfMany() {
        // 2 and 4 can be late, 1 and 3 early: four such, the first is 2 1
        int[] want = {2, 1, 1, 2};
        for (int what = 0; what < 4; what++) due("what " + what, alike(what, 6, 5, 21, 20), want[what]);
        due("four", alike(4, 6, 5, 21, 20), 4);
    }

    @Of(part = "Terms", says = "ALIKE: of two SENTENCES of two MEANINGS each, by a TABLE that is told (MEANINGS 1 to n, their GAPS, 1 to 63, all unlike)")
    static void p17FromTheLowestGapToTheHighest() {
        int[] low = {1, 2, 2, 1};
        int[] high = {2, 1, 1, 2};
        for (int what = 0; what < 4; what++) {
            due("1 and 2, " + what, alike(what, 1, 2), low[what]);
            due("63 and 62, " + what, alike(what, 63, 62), high[what]);
        }
        due("1 has none that is less, 63 none that is more", alike(4, 63, 1), 0);
        due("one meaning twice", alike(4, 5, 6, 7), 4);
        due("of the middle one, too", alike(1, 5, 6, 7), 2);
    }

    @Of(part = "Terms", says = "SAFE if there is none")
    static void p17SafeIfThereIsNone() {
        due("none", alike(4, 5, 7, 9, 11), 0);
        due("safe", alike(0, 5, 7, 9, 11), -3);
        due("two that are one apart", alike(4, 5, 7, 9, 10), 1);
        due("are not safe", alike(0, 5, 7, 9, 10), 3);
    }

    @Of(part = "Promise 17", says = "-3: SAFE, for 0 to 3")
    static void p17SafeFor0To3() {
        for (int what = 0; what <= 3; what++) {
            int asked = what;
            due("one alone, " + what, alike(what, 9), -3);
            due("all two apart, " + what, alike(what, 1, 3, 5, 7, 9, 11, 13, 15, 17, 19, 21, 63), -3);
            takesTheTape("safe, " + what, Boundaries::threeWithoutTape, word -> alikeOf(word, asked, 5, 7), -3);
        }
        due("so many", alike(4, 1, 3, 5), 0);
    }

    @Of(part = "Promise 17", says = "NONE: no such ones")
    static void p17NoSuchAlikeChangesNothing() {
        int[][] bad = {{0, 0}, {-1, 0}, {13, 0}, {LEAST, 0}, {MOST, 0}, {3, -1}, {3, 5}, {3, LEAST}, {3, MOST}};
        for (int[] b : bad) refused("alike " + b[0] + " " + b[1], word -> word.alike(b[0], b[1]), -1);
    }

    @Of(part = "Promise 17", says = "it has not so many (the tape stays)")
    static void p17OfAnEmptyTape() {
        refused("1 of none", Boundaries::threeWithoutTape, word -> word.alike(1, 4), -1);
        refused("12 of none", Boundaries::threeWithoutTape, word -> word.alike(12, 0), -1);
        takesTheTape("12 of twenty", Boundaries::threeWithShortTape, word -> word.alike(12, 4), -2);
    }

    // ---- what holds of all ----

    @Of(part = "Terms", says = "All memory is the people's own.")
    static void twoObjectsAreApart() {
        OneWord one = three();
        refuseAll(one);
        one.draw(200);
        OneWord other = new OneWord();
        int[] want = {0, 0, 0, 0, 1, 200, 100};
        for (int what = 0; what < want.length; what++) due("count " + what, other.count(what), want[what]);
        due("nothing kept", other.undo(), false);
    }

    @Of(part = "Terms", says = "The constants: `NONE = -1`: There is none.")
    static void theConstant() {
        due("NONE", OneWord.NONE, -1);
    }

    @Of(part = "Terms", says = "A call that is refused (NONE, false) changes nothing but the tape, where it is told.")
    static void manyRefusedCallsOneBehindTheOther() {
        refused("sixty of them", BoundariesOfCrowd::three, BoundariesOfCrowd::refuseAll, 0);
    }

    /** How many were not refused. */
    private static long refuseAll(OneWord word) {
        int taken = 0;
        int[] far = {LEAST, MOST};
        for (int n : far) {
            long[] answers = {word.mouth(n, 0, 0), word.tongue(n), word.sentence(0, n), word.sentence(n, 1), word.say(n, 99), word.say(0, n),
                word.heard(n), word.hearing(0, n, 0), word.hearing(0, 0, n), word.way(n, 0), word.meaning(0, n, 0, 0, 0), word.read(0, n, -1),
                word.read(0, 1, n), word.missed(0, 0, n, -1), word.missed(0, n, 1, -1), word.soonest(n, -1), word.soonest(1, n),
                word.byRules(n, 1, 0), word.byRules(1, n, 0), word.table(n, 1, -1), word.table(1, n, -1), word.alike(n, 0), word.alike(1, n),
                word.draw(n), word.said(n, 0), word.said(0, n), word.check(n, 0), word.check(0, n), word.count(n),
                bit(word.seed(n)) - 1, bit(word.air(n, 1)) - 1, bit(word.air(1, n)) - 1};
            for (long a : answers) taken += a < 0 ? 0 : 1;
        }
        return taken;
    }
}
