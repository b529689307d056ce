/** Boundaries of mouths, air, tape, sentences, sayings and hearings, of what is drawn and what is kept. */
final class BoundariesOfTalk extends Boundaries {
    private BoundariesOfTalk() {}

    // ---- Promise 1 ----

    @Of(part = "Promise 1", says = "No MOUTHS")
    static void p01NoMouths() {
        OneWord word = new OneWord();
        due("how many", word.count(0), 0);
        due("no sentence", word.count(10), -1);
        due("no ear", word.heard(0), -1);
        due("no way", word.way(0, 0), -1);
        due("nobody can say", word.say(0, 0), -1);
        due("the first is 0", word.mouth(0, 0, 0), 0);
    }

    @Of(part = "Promise 1", says = "SAYINGS")
    static void p01NoSayings() {
        OneWord word = new OneWord();
        due("how many", word.count(1), 0);
        due("none is the first", word.said(0, 0), -1);
        due("none fall", word.quiet(), 0);
        due("none to keep", word.keep(), 0);
    }

    @Of(part = "Promise 1", says = "TONGUE")
    static void p01NoTongue() {
        OneWord word = crowd(1);
        due("no clauses", word.count(2), 0);
        due("all means 0", word.meaning(0, 63, 0, 8, 63), 0);
        due("nobody wants to speak", word.byRules(1, 400, 2), 0);
    }

    @Of(part = "Promise 1", says = "RANGE 200, SPEED 100")
    static void p01RangeAndSpeed() {
        OneWord word = new OneWord();
        due("RANGE", word.count(5), 200);
        due("SPEED", word.count(6), 100);
        word.mouth(-50, -50, 0);
        word.mouth(50, 50, 0);
        word.say(0, 7);
        due("heard from corner to corner", word.heard(1), 1);
        due("two breaths later", word.hearing(1, 0, 0), 9);
    }

    @Of(part = "Promise 1", says = "THE SEED 1")
    static void p01TheSeed() {
        OneWord word = new OneWord();
        due("X", word.count(4), 1);
        word.draw(1);
        due("X by the seed", word.count(4), (25173 + 13849) % 65536);
    }

    @Of(part = "Promise 20", says = "KEPT")
    static void p20ANewObjectHasNothingKept() {
        due("nothing to undo", new OneWord().undo(), false);
    }

    @Of(part = "Promise 4", says = "how many it has")
    static void p04ANewObjectHasNoTape() {
        OneWord word = crowd(1);
        due("none", word.count(3), 0);
        due("not one byte", word.tongue(1), -1);
        due("but no bytes at all", word.sentence(0, 0), 0);
    }

    @Of(part = "What it is", says = "An object is used for at most 512 calls after it has been made")
    static void call512IsAnsweredAsTheFirst() {
        OneWord word = crowd(2);
        int calls = 2;
        for (; calls < 152; calls++) due("say", word.say(calls % 2, calls), calls - 1);
        for (; calls < 511; calls++) due("heard", word.heard(calls % 2), 150);
        due("the last one", word.hearing(1, 149, 0), 151);
    }

    // ---- Promise 2 ----

    @Of(part = "Promise 2", says = "A MOUTH: its number")
    static void p02NumbersGoOnBehindARefusedOne() {
        OneWord word = new OneWord();
        due("the first", word.mouth(1, 2, 3), 0);
        due("none", word.mouth(51, 2, 3), -1);
        due("the second", word.mouth(1, 2, 3), 1);
        due("two are there", word.count(0), 2);
    }

    @Of(part = "Terms", says = "at places x, y (-50 to 50)")
    static void p02XIsMinus50To50() {
        OneWord word = new OneWord();
        due("x -51", word.mouth(-51, 0, 0), -1);
        due("x -50", word.mouth(-50, 0, 0), 0);
        due("x 50", word.mouth(50, 0, 0), 1);
        due("x 51", word.mouth(51, 0, 0), -1);
        due("it stands there", word.way(0, 1), 100);
    }

    @Of(part = "Terms", says = "at places x, y (-50 to 50)")
    static void p02YIsMinus50To50() {
        OneWord word = new OneWord();
        due("y -51", word.mouth(0, -51, 0), -1);
        due("y -50", word.mouth(0, -50, 0), 0);
        due("y 50", word.mouth(0, 50, 0), 1);
        due("y 51", word.mouth(0, 51, 0), -1);
        due("it stands there", word.way(0, 1), 100);
    }

    @Of(part = "Terms", says = "each with so many thousandths (0 to 1000; 0 at first)")
    static void p02ThousandthsAre0To1000() {
        OneWord word = new OneWord();
        due("-1", word.mouth(0, 0, -1), -1);
        due("0", word.mouth(0, 0, 0), 0);
        due("1000", word.mouth(0, 0, 1000), 1);
        due("1001", word.mouth(0, 0, 1001), -1);
    }

    @Of(part = "Promise 2", says = "NONE: no such ones")
    static void p02NoSuchMouthChangesNothing() {
        int[][] bad = {{-51, 0, 0}, {51, 0, 0}, {0, -51, 0}, {0, 51, 0}, {0, 0, -1}, {0, 0, 1001}, {LEAST, 0, 0}, {MOST, 0, 0},
            {0, LEAST, 0}, {0, MOST, 0}, {0, 0, LEAST}, {0, 0, MOST}};
        for (int[] b : bad) refused("mouth " + b[0] + " " + b[1] + " " + b[2], word -> word.mouth(b[0], b[1], b[2]), -1);
    }

    @Of(part = "Promise 2", says = "8 are there")
    static void p02AnEighthButNoNinth() {
        OneWord word = crowd(7);
        due("the eighth", word.mouth(1, 1, 1), 7);
        due("a ninth", word.mouth(1, 1, 1), -1);
        due("eight are there", word.count(0), 8);
        refused("a ninth changes nothing", Boundaries::talkers, eight -> eight.mouth(5, 5, 5), -1);
    }

    @Of(part = "Terms", says = "MOUTHS 0 to 7 (each an EAR as well)")
    static void p02Mouth7IsAnEar() {
        OneWord word = crowd(8);
        due("7 says", word.say(7, 3), 1);
        due("8 does not", word.say(8, 3), -1);
        due("7 hears", word.heard(7), 1);
        due("itself", word.hearing(7, 0, 1), 0 + 7);
        due("8 does not", word.heard(8), -1);
    }

    @Of(part = "Terms", says = "and a SENTENCE: 0 to 4 MEANINGS")
    static void p02AMouthComesWithoutASentence() {
        OneWord word = crowd(1);
        due("none at first", word.count(10), 0);
        due("no first word", word.count(20), -1);
    }

    // ---- Promise 3 ----

    @Of(part = "Terms", says = "RANGE (0 to 200; 200 at first)")
    static void p03RangeIs0To200() {
        OneWord word = new OneWord();
        due("-1", word.air(-1, 100), false);
        due("201", word.air(201, 100), false);
        due("200 at first", word.count(5), 200);
        due("0", word.air(0, 100), true);
        due("it is 0", word.count(5), 0);
        due("200", word.air(200, 100), true);
        due("it is 200", word.count(5), 200);
    }

    @Of(part = "Terms", says = "SPEED (1 to 100; 100 at first)")
    static void p03SpeedIs1To100() {
        OneWord word = new OneWord();
        due("0", word.air(200, 0), false);
        due("101", word.air(200, 101), false);
        due("100 at first", word.count(6), 100);
        due("1", word.air(200, 1), true);
        due("it is 1", word.count(6), 1);
        due("100", word.air(200, 100), true);
        due("it is 100", word.count(6), 100);
    }

    @Of(part = "Promise 3", says = "RANGE and SPEED: true")
    static void p03BothAreTaken() {
        OneWord word = new OneWord();
        due("true", word.air(33, 44), true);
        due("RANGE", word.count(5), 33);
        due("SPEED", word.count(6), 44);
    }

    @Of(part = "Promise 3", says = "false: no such ones")
    static void p03NoSuchAirChangesNothing() {
        int[][] bad = {{-1, 5}, {201, 5}, {5, 0}, {5, 101}, {5, -1}, {LEAST, 5}, {MOST, 5}, {5, LEAST}, {5, MOST}};
        for (int[] b : bad) refused("air " + b[0] + " " + b[1], word -> bit(word.air(b[0], b[1])), 0);
    }

    // ---- Promise 4 ----

    @Of(part = "Promise 4", says = "Twenty bytes come behind the tape")
    static void p04BehindTheTape() {
        OneWord word = crowd(1, "mg(1=1)");
        for (int breath = 0; breath < 6; breath++) word.say(0, breath * (breath + 1));
        due("twenty", word.feed(31, 2, 4, 6, 8), 20);
        due("twenty more", word.feed(10, 0, 0, 0, 0), 40);
        due("the sixth number is the first of the second feed", word.check(0, 6), -1);
    }

    @Of(part = "Promise 4", says = "the highest of each int first")
    static void p04TheHighestByteFirst() {
        int[][] of = {{0x01020304, 0}, {0x05060708, 4}, {0x090a0b0c, 8}};
        int[] uses = {1, 2, 3, 4, 5, 6, 7, 8, 9, 10, 11, 12};
        for (int i = 0; i < 12; i++) {
            OneWord word = new OneWord();
            word.feed(of[0][0], of[1][0], of[2][0], 0, 0);
            due("the gap of byte " + i, word.table(12, 1, i + 1), 13 - uses[i]);
        }
        OneWord word = new OneWord();
        word.feed(0xff000000, 0, 0, 0, 0);
        due("a byte of 255 is no number below 0", word.table(1, 1, -1), 255);
        word.feed(0x80000000, 0, 0, 0, 0);
        due("nor one of 128", word.table(1, 1, -1), 128);
    }

    @Of(part = "Promise 4", says = "NONE if that would be more than 220")
    static void p04Of220BytesAndNoMore() {
        OneWord word = crowd(1);
        for (int i = 1; i <= 11; i++) due("feed " + i, word.feed(i, i, i, i, i), 20 * i);
        due("a twelfth", word.feed(0, 0, 0, 0, 0), -1);
        due("and again", word.feed(-1, -1, -1, -1, -1), -1);
        due("220 stay", word.count(3), 220);
        emptyTape(word);
        due("once it is empty it takes more", word.feed(0, 0, 0, 0, 0), 20);
    }

    @Of(part = "Promise 4", says = "NONE if that would be more than 220")
    static void p04ARefusedFeedChangesNothing() {
        refused("a twelfth feed", BoundariesOfTalk::withFullTape, word -> word.feed(9, 9, 9, 9, 9), -1);
    }

    private static OneWord withFullTape() {
        OneWord word = threeWithoutTape();
        for (int i = 0; i < 11; i++) word.feed(0x01020304 + i, 0x05060708, 0x090a0b0c, i, i);
        return word;
    }

    // ---- Promise 6 ----

    @Of(part = "Promise 6", says = "(0 to 4 MEANINGS; empty then): n")
    static void p06SentencesOf0To4() {
        OneWord word = crowd(1);
        for (int n = 0; n <= 4; n++) {
            tape(word, 5, 6, 7, 8, 9);
            due("of " + n, word.sentence(0, n), n);
            due("so many", word.count(10), n);
            for (int i = 0; i < 4; i++) due("word " + i + " of " + n, word.count(20 + i), i < n ? 5 + i : -1);
        }
        tape(word, 5, 6, 7, 8, 9);
        due("of 5", word.sentence(0, 5), -1);
        due("of -1", word.sentence(0, -1), -1);
        due("four stay", word.count(10), 4);
    }

    @Of(part = "Promise 6", says = "The SENTENCE of a MOUTH by the first n bytes of the tape (0 to 4 MEANINGS; empty then): n")
    static void p06NothingIsLeftOfALongerOne() {
        OneWord word = crowd(1, "m5(1=1)");
        for (int n = 4; n >= 0; n--) {
            due("of " + n, sentence(word, 0, row(n, 5)), n);
            for (int i = 0; i < 4; i++) due("word " + i + " of " + n, word.count(20 + i), i < n ? 5 : -1);
            due("so many breaths", word.soonest(1, -1), Math.max(0, n - 1));
        }
    }

    @Of(part = "Promise 6", says = "empty then")
    static void p06TheTapeIsEmptyThen() {
        for (int n = 0; n <= 4; n++) {
            OneWord word = crowd(1);
            tape(word, row(40, 1));
            word.sentence(0, n);
            due("behind a sentence of " + n, word.count(3), 0);
        }
    }

    @Of(part = "Promise 6", says = "The SENTENCE of a MOUTH by the first n bytes of the tape")
    static void p06WhatComesBehindTheFirstBytesIsNotAsked() {
        OneWord word = crowd(2);
        tape(word, 1, 31, 0, 255);
        due("two", word.sentence(0, 2), 2);
        due("of one mouth alone", word.count(11), 0);
    }

    @Of(part = "Terms", says = "MEANINGS (1 to 31)")
    static void p06MeaningsAre1To31() {
        OneWord word = crowd(1);
        due("0", sentence(word, 0, 0), -2);
        due("1", sentence(word, 0, 1), 1);
        due("31", sentence(word, 0, 31), 1);
        due("32", sentence(word, 0, 32), -2);
        due("127", sentence(word, 0, 127), -2);
        due("128", sentence(word, 0, 128), -2);
        due("255", sentence(word, 0, 255), -2);
    }

    @Of(part = "Promise 6", says = "-2: a byte that is no MEANING (the one before stays)")
    static void p06TheSentenceBeforeStays() {
        int[][] bad = {{0}, {32}, {0, 4}, {4, 0}, {4, 4, 4, 0}, {4, 4, 4, 32}, {255, 4, 4, 4}};
        for (int[] b : bad) {
            takesTheTape("a bad byte among " + b.length, Boundaries::threeWithoutTape, word -> sentence(word, 0, b), -2);
        }
    }

    @Of(part = "Promise 6", says = "NONE: no such ones")
    static void p06NoSuchSentenceChangesNothing() {
        int[][] bad = {{-1, 1}, {3, 1}, {8, 1}, {LEAST, 1}, {MOST, 1}, {0, -1}, {0, 5}, {0, LEAST}, {0, MOST}, {3, 0}, {-1, 0}};
        for (int[] b : bad) refused("sentence " + b[0] + " " + b[1], word -> word.sentence(b[0], b[1]), -1);
    }

    @Of(part = "Promise 6", says = "it has not so many (the tape stays)")
    static void p06OfAnEmptyTape() {
        for (int n = 1; n <= 4; n++) {
            int many = n;
            refused("of " + n, Boundaries::threeWithoutTape, word -> word.sentence(0, many), -1);
        }
        OneWord word = threeWithoutTape();
        due("none are always there", word.sentence(0, 0), 0);
        due("and are taken", word.count(10), 0);
    }

    // ---- Promise 7 ----

    @Of(part = "Promise 7", says = "A SAYING: how many there are")
    static void p07HowManyThereAre() {
        OneWord word = crowd(1);
        due("one", word.say(0, 4), 1);
        due("none by a refused one", word.say(0, 3), -1);
        due("two", word.say(0, 4), 2);
    }

    @Of(part = "Terms", says = "A SAYING: a MOUTH says the word in a BREATH (0 to 9999)")
    static void p07BreathsAre0To9999() {
        OneWord word = crowd(1);
        due("-1", word.say(0, -1), -1);
        due("10000", word.say(0, 10000), -1);
        due("0", word.say(0, 0), 1);
        due("9999", word.say(0, 9999), 2);
        due("10000 again", word.say(0, 10000), -1);
        due("the first", word.said(0, 1), 0);
        due("the last", word.said(1, 1), 9999);
    }

    @Of(part = "Terms", says = "not ahead of the last SAYING")
    static void p07InTheSameBreathButNotAhead() {
        OneWord word = crowd(2);
        word.say(0, 7);
        due("ahead of it", word.say(1, 6), -1);
        due("of the same mouth", word.say(0, 6), -1);
        due("in the same breath", word.say(1, 7), 2);
        due("by the same mouth", word.say(1, 7), 3);
        due("in the next one", word.say(1, 8), 4);
        word.quiet();
        due("once they fell, any", word.say(1, 0), 1);
    }

    @Of(part = "Promise 7", says = "ahead of the last one")
    static void p07AheadOfTheLastOneChangesNothing() {
        refused("a breath ahead", word -> word.say(0, 59), -1);
        refused("by the last one's mouth", word -> word.say(1, 59), -1);
        refused("far ahead", word -> word.say(2, 0), -1);
    }

    @Of(part = "Terms", says = "150 at most")
    static void p07Of150AndNoMore() {
        OneWord word = crowd(1);
        for (int i = 1; i <= 150; i++) due("saying " + i, word.say(0, 5), i);
        due("one more", word.say(0, 5), -1);
        due("150 are", word.count(1), 150);
        due("the last one", word.said(149, 1), 5);
        due("none behind it", word.said(150, 1), -1);
    }

    @Of(part = "Promise 7", says = "150 are")
    static void p07ASayingBeyond150ChangesNothing() {
        refused("a 151st", BoundariesOfTalk::with150, word -> word.say(0, 200), -1);
        refused("in the last breath", BoundariesOfTalk::with150, word -> word.say(0, 9999), -1);
    }

    private static OneWord with150() {
        OneWord word = talkers();
        due("150 are drawn", word.draw(150), 150);
        return word;
    }

    @Of(part = "Promise 7", says = "NONE: no such ones")
    static void p07NoSuchSayingChangesNothing() {
        int[][] bad = {{-1, 70}, {3, 70}, {8, 70}, {LEAST, 70}, {MOST, 70}, {0, -1}, {0, 10000}, {0, LEAST}, {0, MOST}};
        for (int[] b : bad) refused("say " + b[0] + " " + b[1], word -> word.say(b[0], b[1]), -1);
    }

    // ---- Promises 8 and 9 ----

    @Of(part = "Promise 8", says = "How many HEARINGS an EAR has")
    static void p08FromNoneTo150() {
        OneWord word = talkers();
        due("none", word.heard(7), 0);
        word.draw(149);
        due("149", word.heard(7), 149);
        word.draw(1);
        due("150", word.heard(7), 150);
        word.draw(1);
        due("no more", word.heard(7), 150);
    }

    @Of(part = "Promise 8", says = "NONE: no such one")
    static void p08NoSuchEar() {
        int[] bad = {-1, 3, 7, 8, LEAST, MOST};
        for (int ear : bad) refused("heard " + ear, word -> word.heard(ear), -1);
    }

    @Of(part = "Terms", says = "An EAR HEARS a SAYING of a MOUTH, if the WAY is not above RANGE")
    static void p08AtRangeAndAPlaceBeyond() {
        OneWord word = new OneWord();
        word.mouth(0, 0, 0);
        word.mouth(3, -4, 0);
        word.say(1, 0);
        word.air(6, 100);
        due("a way of 7 and a RANGE of 6", word.heard(0), 0);
        word.air(7, 100);
        due("and a RANGE of 7", word.heard(0), 1);
        word.air(8, 100);
        due("and a RANGE of 8", word.heard(0), 1);
    }

    @Of(part = "Terms", says = "An EAR HEARS a SAYING of a MOUTH, if the WAY is not above RANGE")
    static void p08AtARangeOf0() {
        OneWord word = line(0, 0, 1);
        word.say(0, 0);
        word.air(0, 1);
        due("itself", word.heard(0), 1);
        due("who is at the same place", word.heard(1), 1);
        due("who is a place away", word.heard(2), 0);
    }

    @Of(part = "Terms", says = "so many BREATHS later: the WAY through SPEED, rounded down")
    static void p09RoundedDown() {
        OneWord word = line(0, 9);
        word.say(1, 100);
        int[][] late = {{1, 9}, {2, 4}, {3, 3}, {4, 2}, {5, 1}, {8, 1}, {9, 1}, {10, 0}, {100, 0}};
        for (int[] l : late) {
            word.air(200, l[0]);
            due("at a SPEED of " + l[0], word.hearing(0, 0, 0), 100 + l[1]);
        }
    }

    @Of(part = "Terms", says = "the WAY through SPEED, rounded down")
    static void p09TheLongestWayAtTheLeastSpeed() {
        OneWord word = new OneWord();
        word.mouth(-50, 50, 0);
        word.mouth(50, -50, 0);
        word.air(200, 1);
        word.say(0, 9999);
        due("heard beyond the last breath of sayings", word.hearing(1, 0, 0), 10199);
        word.air(199, 1);
        due("a place beyond RANGE", word.heard(1), 0);
    }

    @Of(part = "Terms", says = "(its own at once)")
    static void p09ItsOwnAtOnce() {
        OneWord word = line(-50, 50);
        word.air(0, 1);
        word.say(0, 42);
        due("in the same breath", word.hearing(0, 0, 0), 42);
        due("by itself", word.hearing(0, 0, 1), 0);
    }

    @Of(part = "Terms", says = "the air and the places are asked as they are when an EAR is asked")
    static void p08TheAirIsAskedWhenTheEarIs() {
        OneWord word = line(0, 10);
        word.air(5, 1);
        word.say(1, 0);
        due("not heard in that air", word.heard(0), 0);
        word.air(10, 5);
        due("heard in this one", word.heard(0), 1);
        due("so late", word.hearing(0, 0, 0), 2);
        word.air(10, 1);
        due("and in this one so late", word.hearing(0, 0, 0), 10);
        word.air(9, 1);
        due("and in this one not", word.hearing(0, 0, 0), -1);
    }

    @Of(part = "Terms", says = "the air and the places are asked as they are when an EAR is asked")
    static void p08AnEarThatCameLaterHearsWhatWasSaid() {
        OneWord word = line(0);
        word.say(0, 3);
        due("it is not there", word.heard(1), -1);
        word.mouth(4, 0, 0);
        due("now it is", word.heard(1), 1);
        due("and two ears heard it", word.said(0, 2), 2);
    }

    @Of(part = "Terms", says = "Of all that an EAR would HEAR in one and the same BREATH it HEARS just one: that of the least WAY")
    static void p09OfTwoAtOnceTheNearer() {
        OneWord word = line(0, 8, -7);
        word.air(200, 100);
        word.say(1, 5);
        word.say(2, 5);
        due("one", word.heard(0), 1);
        due("the nearer, though it is the higher", word.hearing(0, 0, 1), 2);
        word.air(200, 8);
        due("not at once: two", word.heard(0), 2);
        due("the one that comes first", word.hearing(0, 0, 1), 2);
        due("the other", word.hearing(0, 1, 1), 1);
    }

    @Of(part = "Terms", says = "it HEARS just one: that of the least WAY")
    static void p09OfTwoAtOnceByUnlikeBreaths() {
        OneWord word = line(0, 8, -7);
        word.air(200, 8);
        word.say(1, 5);
        word.say(2, 6);
        due("one", word.heard(0), 1);
        due("at the breath that is theirs", word.hearing(0, 0, 0), 6);
        due("the nearer, though it was said later", word.hearing(0, 0, 1), 2);
        word.say(0, 6);
        due("its own is the nearest", word.hearing(0, 0, 1), 0);
    }

    @Of(part = "Terms", says = "then of the lowest MOUTH")
    static void p09OfLikeWaysTheLowest() {
        OneWord word = line(0, 4, -4, 4);
        word.say(3, 1);
        word.say(2, 1);
        due("of two", word.hearing(0, 0, 1), 2);
        word.say(1, 1);
        due("of three", word.hearing(0, 0, 1), 1);
        due("just one", word.heard(0), 1);
        due("to 3 itself and 1 are alike, and 1 is lower", word.hearing(3, 0, 1), 1);
    }

    @Of(part = "Terms", says = "(twice from one MOUTH: once)")
    static void p08TwiceFromOneMouthOnce() {
        OneWord word = line(0, 4);
        word.say(1, 1);
        word.say(1, 1);
        due("once", word.heard(0), 1);
        due("by itself, too", word.heard(1), 1);
        word.say(1, 2);
        due("in the next breath again", word.heard(0), 2);
        due("by a gap of one", word.hearing(0, 1, 2), 1);
    }

    @Of(part = "Terms", says = "HEARINGS of an EAR go by BREATHS")
    static void p09WhatIsSaidFirstMayBeHeardLast() {
        OneWord word = line(0, 10);
        word.air(200, 1);
        word.say(1, 0);
        word.say(0, 9);
        due("its own first", word.hearing(0, 0, 1), 0);
        due("at 9", word.hearing(0, 0, 0), 9);
        due("then what was said before", word.hearing(0, 1, 1), 1);
        due("at 10", word.hearing(0, 1, 0), 10);
        due("a breath later", word.hearing(0, 1, 2), 1);
    }

    @Of(part = "Terms", says = "THE GAP of a HEARING: BREATHS since the HEARING before (its first one: 63")
    static void p09TheFirstGapIs63() {
        int[] breaths = {0, 1, 62, 63, 64, 9999};
        for (int breath : breaths) {
            OneWord word = crowd(1);
            word.say(0, breath);
            due("at " + breath, word.hearing(0, 0, 2), 63);
        }
    }

    @Of(part = "Terms", says = "63 at most")
    static void p09AGapIs63AtMost() {
        int[][] gaps = {{1, 1}, {62, 62}, {63, 63}, {64, 63}, {9999, 63}};
        for (int[] g : gaps) {
            OneWord word = crowd(1);
            word.say(0, 0);
            word.say(0, g[0]);
            due(g[0] + " later", word.hearing(0, 1, 2), g[1]);
        }
    }

    @Of(part = "Promise 9", says = "Of HEARING i of an EAR")
    static void p09FromTheFirstToTheLastHearing() {
        OneWord word = line(0, 1);
        word.say(0, 4);
        word.say(1, 9);
        due("-1", word.hearing(0, -1, 0), -1);
        due("0", word.hearing(0, 0, 0), 4);
        due("1", word.hearing(0, 1, 0), 9);
        due("2", word.hearing(0, 2, 0), -1);
        word.quiet();
        due("of none", word.hearing(0, 0, 0), -1);
    }

    @Of(part = "Promise 9", says = "NONE: no such ones")
    static void p09NoneAheadOfTheFirstAndBehindTheLast() {
        OneWord word = crowd(1, "m9(1=1)");
        for (int heard = 0; heard < 3; heard++) {
            for (int what = 0; what < 4; what++) {
                due("what " + what + " ahead of " + heard, word.hearing(0, -1, what), -1);
                due("what " + what + " behind " + heard, word.hearing(0, heard, what), -1);
            }
            word.say(0, heard);
        }
    }

    @Of(part = "Promise 9", says = "what 0 the BREATH, 1 who, 2 THE GAP, 3 what it MEANS")
    static void p09WhatIs0To3() {
        OneWord word = line(0, 1);
        tongue(word, "m9+w(1=1)");
        word.say(0, 4);
        word.say(1, 9);
        int[] want = {-1, 9, 1, 5, 10, -1};
        for (int what = -1; what <= 4; what++) due("what " + what, word.hearing(0, 1, what), want[what + 1]);
    }

    @Of(part = "Promise 9", says = "NONE: no such ones")
    static void p09NoSuchHearingChangesNothing() {
        int[][] bad = {{-1, 0, 0}, {3, 0, 0}, {8, 0, 0}, {LEAST, 0, 0}, {MOST, 0, 0}, {0, -1, 2}, {0, -1, 3}, {0, 9, 2}, {0, LEAST, 2},
            {0, MOST, 3}, {0, 0, -1}, {0, 0, 4}, {0, 0, LEAST}, {0, 0, MOST}};
        for (int[] b : bad) refused("hearing " + b[0] + " " + b[1] + " " + b[2], word -> word.hearing(b[0], b[1], b[2]), -1);
    }

    // ---- Promise 10 ----

    @Of(part = "Promise 10", says = "The WAY between two MOUTHS")
    static void p10TheShortestAndTheLongest() {
        OneWord word = new OneWord();
        word.mouth(-50, 50, 0);
        word.mouth(50, -50, 0);
        word.mouth(50, -50, 0);
        due("to itself", word.way(1, 1), 0);
        due("to one at its place", word.way(1, 2), 0);
        due("from corner to corner", word.way(0, 1), 200);
        due("and back", word.way(1, 0), 200);
        word.air(0, 1);
        due("no RANGE is asked", word.way(0, 1), 200);
    }

    @Of(part = "Terms", says = "THE WAY between two: the differences of x and of y without sign, together")
    static void p10WithoutSign() {
        OneWord word = new OneWord();
        word.mouth(0, 0, 0);
        word.mouth(3, 4, 0);
        word.mouth(-3, 4, 0);
        word.mouth(3, -4, 0);
        word.mouth(-3, -4, 0);
        for (int m = 1; m <= 4; m++) due("to " + m, word.way(0, m), 7);
        due("across x", word.way(1, 2), 6);
        due("across y", word.way(1, 3), 8);
    }

    @Of(part = "Promise 10", says = "NONE: no such ones")
    static void p10NoSuchMouths() {
        int[] bad = {-1, 3, 8, LEAST, MOST};
        for (int m : bad) {
            refused("to " + m, word -> word.way(0, m), -1);
            refused("from " + m, word -> word.way(m, 0), -1);
        }
    }

    // ---- Promise 18 ----

    @Of(part = "Promise 18", says = "THE SEED (0 to 65535; X, too): true")
    static void p18SeedsAre0To65535() {
        OneWord word = new OneWord();
        due("-1", word.seed(-1), false);
        due("65536", word.seed(65536), false);
        due("X stays", word.count(4), 1);
        due("0", word.seed(0), true);
        due("X, too", word.count(4), 0);
        word.draw(1);
        due("what comes of 0", word.count(4), 13849);
        due("65535", word.seed(65535), true);
        due("X, too", word.count(4), 65535);
        word.draw(1);
        due("what comes of 65535", word.count(4), 54212);
    }

    @Of(part = "Promise 18", says = "false: no such number")
    static void p18NoSuchSeedChangesNothing() {
        int[] bad = {-1, 65536, LEAST, MOST};
        for (int x : bad) refused("seed " + x, word -> bit(word.seed(x)), 0);
    }

    // ---- Promise 19 ----

    @Of(part = "Terms", says = "DRAWN: for n BREATHS (1 to 200)")
    static void p19Of1To200Breaths() {
        OneWord word = new OneWord();
        due("0", word.draw(0), -1);
        due("201", word.draw(201), -1);
        due("X stays", word.count(4), 1);
        due("1", word.draw(1), 0);
        due("X went on once", word.count(4), nextX(1));
        due("200", word.draw(200), 0);
        int x = 1;
        for (int i = 0; i < 201; i++) x = nextX(x);
        due("X went on 200 times more", word.count(4), x);
    }

    @Of(part = "Promise 19", says = "NONE: no such n")
    static void p19NoSuchDrawChangesNothing() {
        int[] bad = {0, -1, 201, LEAST, MOST};
        for (int n : bad) refused("draw " + n, word -> word.draw(n), -1);
    }

    @Of(part = "Promise 19", says = "DRAWN: how many SAYINGS there were")
    static void p19HowManyOfThese() {
        OneWord word = talkers();
        due("three", word.draw(3), 3);
        due("two more, not five", word.draw(2), 2);
        due("of nobody none", new OneWord().draw(200), 0);
    }

    @Of(part = "Terms", says = "from the last SAYING's next one on (first: 0)")
    static void p19FromTheNextBreathOn() {
        OneWord word = talkers();
        word.draw(1);
        due("first: 0", word.said(0, 1), 0);
        word.draw(1);
        due("then 1", word.said(1, 1), 1);
        word.say(0, 50);
        word.draw(2);
        due("behind 50", word.said(3, 1), 51);
        due("and on", word.said(4, 1), 52);
        word.quiet();
        word.draw(1);
        due("once they fell: 0", word.said(0, 1), 0);
    }

    @Of(part = "Terms", says = "MOUTH X modulo 8 says it, if it is there")
    static void p19IfItIsThere() {
        // of the seed 1 comes 39022, which is 6 modulo 8
        for (int mouths = 0; mouths <= 8; mouths++) {
            OneWord word = new OneWord();
            for (int i = 0; i < mouths; i++) word.mouth(0, 0, 1000);
            due("of " + mouths, word.draw(1), mouths > 6 ? 1 : 0);
            due("X goes on", word.count(4), 39022);
        }
    }

    @Of(part = "Terms", says = "MOUTH X modulo 8 says it, if it is there")
    static void p19EachMouthOfEight() {
        OneWord word = talkers();
        word.draw(64);
        int x = 1;
        int spoke = 0;
        for (int i = 0; i < 64; i++) {
            x = nextX(x);
            due("who in breath " + i, word.said(i, 0), x % 8);
            spoke |= 1 << x % 8;
        }
        due("all eight of them", spoke, 255);
    }

    @Of(part = "Terms", says = "and X / 8 modulo 1000 is below its thousandths")
    static void p19BelowItsThousandths() {
        // 39022 / 8 modulo 1000 is 877
        int[][] at = {{0, 0}, {876, 0}, {877, 0}, {878, 1}, {1000, 1}};
        for (int[] a : at) {
            OneWord word = new OneWord();
            for (int i = 0; i < 7; i++) word.mouth(0, 0, a[0]);
            due("by " + a[0], word.draw(1), a[1]);
        }
    }

    @Of(part = "Terms", says = "X / 8 modulo 1000 is below its thousandths")
    static void p19Of0NeverAndOf1000Always() {
        OneWord never = crowd(8);
        due("never", never.draw(200), 0);
        OneWord always = talkers();
        due("always", always.draw(150), 150);
        // a seed by which X / 8 modulo 1000 is 0: not below 0, but below 1
        int seed = 0;
        while (nextX(seed) / 8 % 1000 != 0) seed++;
        never.seed(seed);
        due("0 is not below 0", never.draw(1), 0);
        OneWord one = new OneWord();
        for (int i = 0; i < 8; i++) one.mouth(0, 0, 1);
        one.seed(seed);
        due("0 is below 1", one.draw(1), 1);
        // and one by which it is 999
        seed = 0;
        while (nextX(seed) / 8 % 1000 != 999) seed++;
        OneWord most = new OneWord();
        for (int i = 0; i < 8; i++) most.mouth(0, 0, 999);
        most.seed(seed);
        due("999 is not below 999", most.draw(1), 0);
        always.quiet();
        always.seed(seed);
        due("999 is below 1000", always.draw(1), 1);
    }

    @Of(part = "Terms", says = "X = (25173 X + 13849) modulo 65536 (X is THE SEED at first, 1)")
    static void p19XWrapsAround() {
        int[] seeds = {0, 1, 2, 3, 32767, 32768, 65534, 65535};
        for (int seed : seeds) {
            OneWord word = new OneWord();
            word.seed(seed);
            word.draw(1);
            due("X of " + seed, word.count(4), (25173L * seed + 13849) % 65536);
        }
    }

    @Of(part = "Promise 19", says = "(At 150 SAYINGS, or BREATH 9999, none any more; X goes on.)")
    static void p19At150SayingsNoneAnyMore() {
        OneWord word = talkers();
        due("149", word.draw(149), 149);
        int x = word.count(4);
        due("of two the 150th", word.draw(2), 1);
        due("150 are", word.count(1), 150);
        due("X goes on", word.count(4), nextX(nextX(x)));
        due("none any more", word.draw(1), 0);
        due("X goes on", word.count(4), nextX(nextX(nextX(x))));
    }

    @Of(part = "Promise 19", says = "(At 150 SAYINGS, or BREATH 9999, none any more; X goes on.)")
    static void p19AtBreath9999NoneAnyMore() {
        OneWord word = talkers();
        word.say(0, 9997);
        due("up to the last breath", word.draw(5), 2);
        due("which is", word.said(2, 1), 9999);
        int x = word.count(4);
        due("none behind it", word.draw(200), 0);
        for (int i = 0; i < 200; i++) x = nextX(x);
        due("X goes on", word.count(4), x);
        due("three are", word.count(1), 3);
        due("but in that breath it can still be said", word.say(0, 9999), 4);
    }

    // ---- Promises 20, 21 and 22 ----

    @Of(part = "Promise 20", says = "KEPT: how many SAYINGS there are")
    static void p20FromNoneTo150() {
        OneWord word = talkers();
        due("none", word.keep(), 0);
        word.draw(200);
        due("150", word.keep(), 150);
        due("they are still there", word.count(1), 150);
        word.quiet();
        due("none again", word.keep(), 0);
        due("as kept last", word.undo(), true);
        due("which was none", word.count(1), 0);
    }

    @Of(part = "Promise 21", says = "UNDONE: true")
    static void p21AllSayingsAndX() {
        OneWord word = with150();
        int x = word.count(4);
        word.keep();
        int[] who = {word.said(0, 0), word.said(149, 0)};
        word.quiet();
        word.seed(0);
        word.say(7, 9);
        due("true", word.undo(), true);
        due("150", word.count(1), 150);
        due("X", word.count(4), x);
        due("the first", word.said(0, 0), who[0]);
        due("its breath", word.said(0, 1), 0);
        due("the last", word.said(149, 0), who[1]);
        due("its breath", word.said(149, 1), 149);
        due("they are heard again", word.heard(0), 150);
    }

    @Of(part = "Promise 21", says = "UNDONE: true")
    static void p21WhatWasHeardIsUndoneToo() {
        OneWord word = crowd(1, "mg(1=1)");
        word.say(0, 4);
        word.keep();
        word.say(0, 6);
        due("two", word.heard(0), 2);
        due("undone", word.undo(), true);
        due("one", word.heard(0), 1);
        due("no second", word.hearing(0, 1, 0), -1);
        word.quiet();
        due("none", word.heard(0), 0);
        word.undo();
        due("one again", word.heard(0), 1);
        due("at its breath", word.hearing(0, 0, 0), 4);
    }

    @Of(part = "Terms", says = "UNDONE: as they were KEPT last")
    static void p21AsKeptLastAndAgain() {
        OneWord word = crowd(1);
        word.say(0, 1);
        word.keep();
        word.say(0, 2);
        due("the later", word.keep(), 2);
        word.say(0, 3);
        for (int i = 0; i < 3; i++) {
            due("again", word.undo(), true);
            due("two", word.count(1), 2);
            word.say(0, 2 + i);
        }
    }

    @Of(part = "Terms", says = "KEPT: all SAYINGS and X")
    static void p21NothingElseIsKept() {
        OneWord word = crowd(1, "m1(1=1)");
        sentence(word, 0, 5);
        word.keep();
        word.mouth(1, 1, 1);
        word.air(3, 4);
        tongue(word, "m2(1=1);m3(1=1)");
        sentence(word, 0, 6, 7);
        tape(word, 1);
        word.undo();
        int[] want = {2, 0, 2, 20, 1, 3, 4};
        for (int what = 0; what < want.length; what++) due("count " + what, word.count(what), want[what]);
        due("the sentence", word.count(10), 2);
        due("the tongue", word.meaning(0, 1, 0, 0, 0), 2);
    }

    @Of(part = "Promise 21", says = "false: none was KEPT")
    static void p21NoneWasKept() {
        refused("undo", BoundariesOfTalk::neverKept, word -> bit(word.undo()), 0);
        OneWord word = neverKept();
        word.undo();
        due("its sayings stay", word.count(1), 2);
        due("X stays", word.count(4), 99);
        due("a refused one keeps none", word.undo(), false);
    }

    private static OneWord neverKept() {
        OneWord word = line(0, 5);
        word.say(0, 3);
        word.say(1, 4);
        word.seed(99);
        tape(word, 1, 2, 3);
        return word;
    }

    @Of(part = "Promise 22", says = "SAYINGS fall: how many there were")
    static void p22NoneAnd150() {
        OneWord word = with150();
        int x = word.count(4);
        due("150 fall", word.quiet(), 150);
        due("none are left", word.count(1), 0);
        due("none is heard", word.heard(0), 0);
        due("none is the first", word.said(0, 0), -1);
        due("X stays", word.count(4), x);
        due("none fall", word.quiet(), 0);
        due("there is room again, from breath 0 on", word.say(0, 0), 1);
    }

    @Of(part = "Promise 22", says = "SAYINGS fall")
    static void p22WhatWasKeptStays() {
        OneWord word = crowd(1);
        word.say(0, 1);
        word.keep();
        word.quiet();
        due("undone", word.undo(), true);
        due("one", word.count(1), 1);
    }

    // ---- Promise 23 ----

    @Of(part = "Promise 23", says = "Of SAYING i, what 0 who, 1 the BREATH")
    static void p23FromTheFirstToTheLast() {
        OneWord word = crowd(3);
        word.say(2, 0);
        word.say(1, 9999);
        due("-1", word.said(-1, 0), -1);
        due("who 0", word.said(0, 0), 2);
        due("breath 0", word.said(0, 1), 0);
        due("who 1", word.said(1, 0), 1);
        due("breath 1", word.said(1, 1), 9999);
        due("2", word.said(2, 0), -1);
    }

    @Of(part = "Promise 23", says = "2 how many EARS HEARD it")
    static void p23FromNoEarToEight() {
        OneWord word = crowd(8);
        word.say(7, 3);
        due("all eight", word.said(0, 2), 8);
        word.say(0, 3);
        due("none: a lower one drowned it", word.said(0, 2), 0);
        due("that one is heard by all", word.said(1, 2), 8);
    }

    @Of(part = "Promise 23", says = "2 how many EARS HEARD it")
    static void p23EarsWithinRange() {
        OneWord word = line(0, 5, 10);
        word.say(0, 3);
        int[][] at = {{0, 1}, {4, 1}, {5, 2}, {9, 2}, {10, 3}};
        for (int[] a : at) {
            word.air(a[0], 1);
            due("at a RANGE of " + a[0], word.said(0, 2), a[1]);
        }
    }

    @Of(part = "Promise 23", says = "2 how many EARS HEARD it")
    static void p23TheFirstSayingMayDrownTheLast() {
        OneWord word = crowd(2);
        word.say(0, 3);
        word.say(1, 3);
        due("the first, of the lower", word.said(0, 2), 2);
        due("the last, of the higher", word.said(1, 2), 0);
        word.say(1, 4);
        due("a breath later", word.said(2, 2), 2);
        OneWord late = line(0, 10);
        late.air(200, 10);
        late.say(1, 3);
        late.say(0, 4);
        due("said first, but 0 speaks when it comes there", late.said(0, 2), 1);
        due("which 1 hears later", late.said(1, 2), 2);
        late.air(200, 9);
        due("at another SPEED, too", late.said(0, 2), 1);
        late.air(200, 11);
        due("and if it comes ahead of that, both do", late.said(0, 2), 2);
    }

    @Of(part = "Promise 23", says = "(two of one MOUTH in one BREATH: both)")
    static void p23TwoOfOneMouthBoth() {
        OneWord word = line(0, 5);
        word.say(0, 3);
        word.say(0, 3);
        due("the first", word.said(0, 2), 2);
        due("the second", word.said(1, 2), 2);
        word.say(1, 3);
        due("but not where another drowns them", word.said(0, 2), 1);
        due("both", word.said(1, 2), 1);
        due("the other", word.said(2, 2), 1);
    }

    @Of(part = "Promise 23", says = "NONE for others")
    static void p23NoneForOthers() {
        int[][] bad = {{-1, 0}, {5, 0}, {5, 2}, {150, 0}, {LEAST, 0}, {MOST, 2}, {0, -1}, {0, 3}, {0, LEAST}, {0, MOST}};
        for (int[] b : bad) refused("said " + b[0] + " " + b[1], word -> word.said(b[0], b[1]), -1);
        due("of none", new OneWord().said(0, 0), -1);
    }

    // ---- Promise 24 ----

    @Of(part = "Promise 24", says = "(four bytes each; empty then)")
    static void p24AllFourBytesCount() {
        OneWord word = heardThree();
        int[][] told = {{31, -1}, {30, 0}, {32, 0}, {31 + (1 << 8), 0}, {31 + (1 << 16), 0}, {31 + (1 << 24), 0}, {-225, 0}, {LEAST + 31, 0}};
        for (int[] t : told) {
            word.feed(t[0], 5, 1, 0, 0);
            due("told " + t[0], word.check(0, 3), t[1]);
            due("empty then", word.count(3), 0);
        }
    }

    private static OneWord heardThree() {
        OneWord word = crowd(1, "mg(1=1)");
        word.say(0, 3);
        word.say(0, 8);
        word.say(0, 9);
        return word;
    }

    @Of(part = "Promise 24", says = "NONE: right")
    static void p24RightIsAllAndNoMore() {
        OneWord word = heardThree();
        word.feed(31, 5, 1, 0, 0);
        due("all three", word.check(0, 3), -1);
        word.quiet();
        due("none of none", word.check(0, 0), -1);
    }

    @Of(part = "Promise 24", says = "CHECK of an EAR by the first n numbers of the tape")
    static void p24From0To55Numbers() {
        OneWord word = crowd(1, "m1(1=1)");
        for (int i = 0; i < 55; i++) word.say(0, i);
        for (int i = 0; i < 11; i++) word.feed(1, 1, 1, 1, 1);
        due("56 are more than any tape has", word.check(0, 56), -2);
        due("-1", word.check(0, -1), -2);
        due("the tape stays", word.count(3), 220);
        due("55", word.check(0, 55), -1);
        due("0: all are lacking", word.check(0, 0), 0);
        for (int i = 0; i < 11; i++) word.feed(1, 1, 1, 1, i == 10 ? 2 : 1);
        due("the last of them is not so", word.check(0, 55), 54);
        for (int i = 0; i < 11; i++) word.feed(1, 1, 1, 1, 1);
        word.say(0, 55);
        due("one is lacking", word.check(0, 55), 55);
    }

    @Of(part = "Promise 24", says = "else the place of the first number that is not so")
    static void p24TheFirstOfTwo() {
        OneWord word = heardThree();
        int[][] told = {{30, 5, 1, 0}, {31, 4, 1, 1}, {31, 5, 0, 2}, {30, 4, 0, 0}, {31, 4, 0, 1}};
        for (int[] t : told) {
            word.feed(t[0], t[1], t[2], 0, 0);
            due("of " + t[0] + " " + t[1] + " " + t[2], word.check(0, 3), t[3]);
        }
        word.feed(31, 5, 1, 0, 0);
        due("one that there is none for", word.check(0, 4), 3);
        word.feed(31, 5, 1, 0, 0);
        due("nor for two", word.check(0, 5), 3);
    }

    @Of(part = "Promise 24", says = "else the place of the first number that is not so")
    static void p24NoNumberIsRightForNoHearing() {
        OneWord word = crowd(1);
        word.feed(0, 0, 0, 0, 0);
        due("of none", word.check(0, 1), 0);
        word.say(0, 1);
        word.feed(0, 0, 0, 0, 0);
        due("one means 0", word.check(0, 1), -1);
        word.feed(0, 0, 0, 0, 0);
        due("a second is not there", word.check(0, 2), 1);
        word.feed(0, -1, 0, 0, 0);
        due("nor by NONE", word.check(0, 2), 1);
    }

    @Of(part = "Promise 24", says = "(n: some are lacking)")
    static void p24SomeAreLacking() {
        OneWord word = heardThree();
        for (int n = 0; n <= 3; n++) {
            word.feed(31, 5, 1, 0, 0);
            due("of " + n, word.check(0, n), n < 3 ? n : -1);
        }
        word.feed(31, 4, 1, 0, 0);
        due("but what is not so comes first", word.check(0, 2), 1);
    }

    @Of(part = "Promise 24", says = "-2: no such one, it has not so many (the tape stays)")
    static void p24ARefusedCheckChangesNothing() {
        int[][] bad = {{-1, 0}, {3, 0}, {8, 1}, {LEAST, 0}, {MOST, 0}, {0, -1}, {0, 11}, {0, 56}, {0, LEAST}, {0, MOST}, {0, 0x40000000},
            {0, 0x40000001}};
        for (int[] b : bad) refused("check " + b[0] + " " + b[1], word -> word.check(b[0], b[1]), -2);
        refused("one more than twenty bytes have", Boundaries::threeWithShortTape, word -> word.check(0, 6), -2);
        takesTheTape("as many as twenty bytes have", Boundaries::threeWithShortTape, word -> word.check(0, 5), 0);
    }

    @Of(part = "Terms", says = "CHECK of an EAR: its MEANINGS, HEARING by HEARING: right, or the first number that is not so")
    static void p24OfEachEarItsOwn() {
        OneWord word = line(0, 10);
        tongue(word, "mg(1=1)");
        word.air(9, 1);
        word.say(0, 0);
        word.say(1, 5);
        word.say(0, 7);
        word.feed(31, 7, 0, 0, 0);
        due("0 hears its own", word.check(0, 2), -1);
        word.feed(31, 0, 0, 0, 0);
        due("1 hears its own", word.check(1, 1), -1);
        word.feed(31, 7, 0, 0, 0);
        due("and no second one", word.check(1, 2), 1);
    }

    // ---- Promise 25 ----

    @Of(part = "Promise 25", says = "0 MOUTHS, 1 SAYINGS, 2 CLAUSES, 3 bytes of the tape, 4 X, 5 RANGE, 6 SPEED")
    static void p25WhatIs0To6() {
        OneWord word = crowd(2, "m1(1=1);m2(1=1);m3(1=1)");
        word.say(0, 1);
        tape(word, row(40, 0));
        word.seed(555);
        word.air(66, 77);
        int[] want = {-1, 2, 1, 3, 40, 555, 66, 77, -1};
        for (int what = -1; what <= 7; what++) due("what " + what, word.count(what), want[what + 1]);
    }

    @Of(part = "Promise 25", says = "10 + m MEANINGS of the SENTENCE of MOUTH m")
    static void p25FromTheFirstMouthToTheLast() {
        OneWord word = crowd(2);
        sentence(word, 1, 4, 5, 6, 7);
        int[] want = {-1, 0, 4, -1};
        for (int what = 9; what <= 12; what++) due("what " + what, word.count(what), want[what - 9]);
        OneWord eight = crowd(8);
        sentence(eight, 7, 9);
        due("of 7", eight.count(17), 1);
        due("18", eight.count(18), -1);
        due("19", eight.count(19), -1);
    }

    @Of(part = "Promise 25", says = "20 + 4 m + i MEANING i of it")
    static void p25FromTheFirstWordToTheLast() {
        OneWord word = crowd(8);
        sentence(word, 0, 1, 2);
        sentence(word, 1, 3, 4, 5, 6);
        sentence(word, 7, 31, 30, 29, 28);
        int[] want = {-1, 1, 2, -1, -1, 3, 4, 5, 6, -1};
        for (int what = 19; what <= 28; what++) due("what " + what, word.count(what), want[what - 19]);
        int[] last = {-1, 31, 30, 29, 28, -1};
        for (int what = 47; what <= 52; what++) due("what " + what, word.count(what), last[what - 47]);
    }

    @Of(part = "Promise 25", says = "NONE for others")
    static void p25NoneForOthers() {
        int[] bad = {-1, -2, 7, 8, 9, 13, 17, 18, 19, 22, 23, 25, 28, 32, 51, 52, 100, LEAST, MOST, LEAST + 10, LEAST + 20, LEAST + 23};
        for (int what : bad) refused("count " + what, word -> word.count(what), -1);
    }
}
