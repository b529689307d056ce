/** Boundaries of a tongue: its text, its faults, what it reckons, and what a hearing means by it. */
final class BoundariesOfTongue extends Boundaries {
    private BoundariesOfTongue() {}

    private static final String TRUE = "(1=1)";

    /** A text of so many bytes that means 5: one clause, whose condition is as long as it takes. */
    private static String textOf(int bytes) {
        StringBuilder text = new StringBuilder("m5(1=1");
        while (text.length() + 5 <= bytes - 1) text.append("|g=64");
        StringBuilder digits = new StringBuilder("5");
        while (text.length() + digits.length() - 1 < bytes - 1) digits.insert(0, '0');
        return text.append(')').replace(1, 2, digits.toString()).toString();
    }

    private static void fault(String text, int number, int place) {
        due("the fault of " + text, tongue(new OneWord(), text), -1000 * number - place);
    }

    private static void noFault(String text, int clauses) {
        due("the clauses of " + text, tongue(new OneWord(), text), clauses);
    }

    /** What mouth 0 means to ear 1, seven places away, behind 1 with a gap of 9. */
    private static void means(String text, int gap, int want) {
        OneWord word = line(0, 7);
        due("clauses of " + text, tongue(word, text) > 0, true);
        due("what " + text + " means at " + gap, word.meaning(1, gap, 0, 1, 9), want);
    }

    private static void holds(String condition, boolean want) {
        means("m1(" + condition + ")", 5, want ? 1 : 0);
    }

    private static void reckons(String sum, int want) {
        means("m" + sum + TRUE, 5, want);
    }

    // ---- Promise 5: the tape ----

    @Of(part = "Promise 5", says = "by the first n bytes of the tape (1 to 200; empty then)")
    static void p05Of1To200Bytes() {
        OneWord word = crowd(1);
        due("a text of 200 has 200", textOf(200).length(), 200);
        tape(word, textOf(200).chars().toArray());
        due("0", word.tongue(0), -1);
        due("201", word.tongue(201), -1);
        due("-1", word.tongue(-1), -1);
        due("200", word.tongue(200), 1);
        due("it means", word.meaning(0, 1, 0, 8, 63), 5);
        tape(word, 'm');
        due("1: it ends too soon", word.tongue(1), -1001);
        due("the one before stays", word.meaning(0, 1, 0, 8, 63), 5);
    }

    @Of(part = "Terms", says = "THE TONGUE: a TEXT of at most 200 bytes")
    static void p05TextsOf199And200And201() {
        OneWord word = crowd(1);
        due("199", tongue(word, textOf(199)), 1);
        due("200", tongue(word, textOf(200)), 1);
        tape(word, textOf(201).chars().toArray());
        due("201", word.tongue(201), -1);
        due("stays on the tape", word.count(3), 220);
        due("its first 200 have no end", word.tongue(200), -1200);
    }

    @Of(part = "Promise 5", says = "(1 to 200; empty then)")
    static void p05TheTapeIsEmptyThen() {
        OneWord word = crowd(1);
        tape(word, ("m5(1=1)" + " ".repeat(50)).chars().toArray());
        due("one clause", word.tongue(7), 1);
        due("what came behind is gone, too", word.count(3), 0);
        tape(word, ("m5(1=1" + " ".repeat(50)).chars().toArray());
        due("a fault", word.tongue(7), -1006);
        due("the tape is empty then, too", word.count(3), 0);
    }

    @Of(part = "Promise 5", says = "THE TONGUE by the first n bytes of the tape")
    static void p05WhatComesBehindTheFirstBytesIsNotAsked() {
        OneWord word = crowd(1);
        tape(word, "m5(1=1);m6(1=1)".chars().toArray());
        due("its first seven bytes", word.tongue(7), 1);
        tape(word, "m5(1=1);m6(1=1)".chars().toArray());
        due("its first eight have no clause behind the ;", word.tongue(8), -1008);
        tape(word, "m5(1=1);m6(1=1)".chars().toArray());
        due("all fifteen", word.tongue(15), 2);
        tape(word, "m5(1=1);m6(1=1)".chars().toArray());
        due("a sixteenth can't stand there", word.tongue(16), -1015);
    }

    @Of(part = "Promise 5", says = "in place of the one before: how many CLAUSES")
    static void p05InPlaceOfTheOneBefore() {
        OneWord word = crowd(1);
        due("fourteen", tongue(word, "m1(g=1);".repeat(13) + "m2(1=1)"), 14);
        due("means", word.meaning(0, 9, 0, 8, 63), 2);
        due("one", tongue(word, "r1(1=1)"), 1);
        due("so many", word.count(2), 1);
        due("nothing is left of the fourteen", word.meaning(0, 9, 0, 8, 63), 0);
    }

    @Of(part = "Promise 5", says = "in place of the one before: how many CLAUSES")
    static void p05NothingIsLeftOfLongerTexts() {
        OneWord word = crowd(1);
        for (int i = 0; i < 2; i++) due("fourteen", tongue(word, "m1(g=1);".repeat(13) + "m2(1=1)"), 14);
        for (int i = 0; i < 2; i++) {
            due("one", tongue(word, "m3(g=3)"), 1);
            due("which does not hold", word.meaning(0, 9, 0, 8, 63), 0);
        }
        for (int i = 0; i < 12; i++) due("of 200 bytes, " + i, tongue(word, textOf(200)), 1);
        due("as the first time", word.meaning(0, 9, 0, 8, 63), 5);
    }

    @Of(part = "Promise 5", says = "a FAULT: -1000 times its number, less its place (the TEXT before stays)")
    static void p05TheTextBeforeStays() {
        String fifteen = "m1(1=1);".repeat(14) + "m";
        String[] bad = {"x", "m", "m9(1=1);", "m9(1=1);m9(1=1", "m123456(1=1)", fifteen, "m[[[[[[[", "m9(1=1);r9(1=1);x"};
        int[] answers = {-1000, -1001, -1008, -1014, -2006, -4112, -5007, -1016};
        for (int i = 0; i < bad.length; i++) {
            String text = bad[i];
            takesTheTape("the fault of " + text, Boundaries::threeWithoutTape, word -> tongue(word, text), answers[i]);
        }
    }

    @Of(part = "Promise 5", says = "a FAULT: -1000 times its number, less its place (the TEXT before stays)")
    static void p05AFaultWithoutATextBefore() {
        OneWord word = crowd(1);
        due("a fault", tongue(word, "m7(1=1);"), -1008);
        due("no clauses", word.count(2), 0);
        due("no meaning", word.meaning(0, 1, 0, 8, 63), 0);
    }

    @Of(part = "Promise 5", says = "a FAULT: -1000 times its number, less its place (the TEXT before stays)")
    static void p05AFaultAgainAndAgain() {
        String[] bad = {"m[[[[[[[1", "m1(!!!!!!1=1)", "m1(!(!([", "m[[[[[[1]", "m123456"};
        int[] answers = {-5007, -5008, -1008, -1009, -2006};
        OneWord word = new OneWord();
        for (int i = 0; i < 15; i++) due("the fault of " + bad[i % 5], tongue(word, bad[i % 5]), answers[i % 5]);
        due("six may still be open", tongue(word, "m[[[[[[1]]]]]]((((((1=1))))))"), 1);
        due("and seven not", tongue(word, "m[[[[[[[1]]]]]]](1=1)"), -5007);
    }

    @Of(part = "Promise 5", says = "less its place")
    static void p05PlacesFrom0To200() {
        fault("x", 1, 0);
        fault(textOf(200).substring(0, 199) + "x", 1, 199);
        fault(textOf(200).substring(0, 199) + "1", 1, 200);
    }

    @Of(part = "Promise 5", says = "NONE: no such n")
    static void p05NoSuchLengthChangesNothing() {
        int[] bad = {0, -1, 201, LEAST, MOST};
        for (int n : bad) refused("tongue " + n, word -> word.tongue(n), -1);
    }

    @Of(part = "Promise 5", says = "it has not so many (the tape stays)")
    static void p05MoreThanTheTapeHas() {
        refused("41 of 40", word -> word.tongue(41), -1);
        refused("200 of 40", word -> word.tongue(200), -1);
        refused("1 of none", Boundaries::threeWithoutTape, word -> word.tongue(1), -1);
        takesTheTape("40 of 40", Boundaries::three, word -> word.tongue(40), -1000);
    }

    // ---- the text ----

    @Of(part = "Terms", says = "no blanks")
    static void p05NoBlanks() {
        String text = "m5(g=1&w=0)";
        noFault(text, 1);
        for (int at = 0; at <= text.length(); at++) fault(text.substring(0, at) + " " + text.substring(at), 1, at);
        fault("m5(g=1\t)", 1, 6);
        fault("m5(g=1)\n", 1, 7);
    }

    @Of(part = "Terms", says = "(none at first)")
    static void p05NoneAtFirst() {
        OneWord word = crowd(1);
        due("clauses", word.count(2), 0);
        word.say(0, 1);
        due("a hearing means 0", word.hearing(0, 0, 3), 0);
    }

    @Of(part = "Terms", says = "CLAUSES (14 at most)")
    static void p05Of14ClausesAndNoMore() {
        noFault("m1(1=1)" + ";m1(1=1)".repeat(12), 13);
        noFault("m1(1=1)" + ";m1(1=1)".repeat(13), 14);
        fault("m1(1=1)" + ";m1(1=1)".repeat(14), 4, 112);
        noFault("m1(1=1)" + ";r1(1=1)".repeat(13), 14);
        fault("m1(1=1)" + ";r1(1=1)".repeat(14), 4, 112);
        OneWord word = crowd(1, "m1(g=1);".repeat(13) + "m2(1=1)");
        due("the 14th is asked", word.meaning(0, 2, 0, 8, 63), 2);
    }

    @Of(part = "Terms", says = "with a ; (59) between two")
    static void p05ASemicolonBetweenTwo() {
        noFault("m1(1=1);m2(1=1)", 2);
        fault(";", 1, 0);
        fault(";m1(1=1)", 1, 0);
        fault("m1(1=1);", 1, 8);
        fault("m1(1=1);;m2(1=1)", 1, 8);
        fault("m1(1=1)m2(1=1)", 1, 7);
        fault("m1(1=1),m2(1=1)", 1, 7);
        fault("m1(1=1):m2(1=1)", 1, 7);
    }

    @Of(part = "Terms", says = "a letter, E, and (C)")
    static void p05EachOfThreeMustStand() {
        fault("1(1=1)", 1, 0);
        fault("m(1=1)", 1, 1);
        fault("m1", 1, 2);
        fault("m1()", 1, 3);
        fault("m1(1)", 1, 4);
        fault("m1[1=1]", 1, 2);
        String others = "abcdefghijklnopqstuvwxyzMR0([!";
        for (int i = 0; i < others.length(); i++) fault(others.charAt(i) + "1(1=1)", 1, 0);
    }

    @Of(part = "Terms", says = "of the first one of a letter whose C holds the E")
    static void p05TheFirstThatHolds() {
        means("m1(g=5);m2(g=5);m3(g<9)", 5, 1);
        means("m1(g=4);m2(g=5);m3(g<9)", 5, 2);
        means("m1(g=4);m2(g=4);m3(g<9)", 5, 3);
        means("r1(1=1);m2(1=1);r3(1=1)", 5, 2);
        means("m0(1=1);m2(1=1)", 5, 0);
    }

    @Of(part = "Terms", says = "of the first one of a letter whose C holds the E")
    static void p05ClausesBehindItAreNotAsked() {
        means("m5(1=1);m6/0(1=1)", 5, 5);
        means("m5(1=1);m6(1/0=1)", 5, 5);
        means("m5(1=1);r6/0(1/0=1);m7(1=1)", 5, 5);
        means("r6/0(1/0=1);m5(1=1)", 5, 5);
        means("m6/0(1=2);m5(1=1);m7/0(1=1)", 5, 5);
    }

    @Of(part = "Terms", says = "m what a HEARING MEANS (0 to 31)")
    static void p05MeaningsAreBoundedBy0And31() {
        reckons("0-99999", 0);
        reckons("0-1", 0);
        reckons("0", 0);
        reckons("1", 1);
        reckons("30", 30);
        reckons("31", 31);
        reckons("32", 31);
        reckons("99999", 31);
    }

    @Of(part = "Terms", says = "(beyond its bounds the bound; none: 0)")
    static void p05NoneIs0() {
        means("m9(g=4)", 5, 0);
        means("r9(1=1)", 5, 0);
        OneWord word = crowd(1, "m1(1=1);r9(g=4)");
        sentence(word, 0, 1);
        due("nobody wants to by a rule that never holds", word.byRules(1, 4, 2), 0);
    }

    @Of(part = "Terms", says = "r how much a MOUTH wants to speak now (0 to 1000)")
    static void p05WishesAreBoundedBy0And1000() {
        String[] wishes = {"0-99999", "0-1", "0", "1", "1000", "1001"};
        for (int i = 0; i < wishes.length; i++) {
            OneWord word = crowd(1, "m1(1=1);r" + wishes[i] + TRUE);
            sentence(word, 0, 1);
            due("by " + wishes[i], word.byRules(1, 1, 2), i < 3 ? 0 : 1);
        }
        // 1 means its word and 0 does not: so it is told who spoke
        int[][] of = {{999, 1000, 1}, {1000, 1000, 0}, {1000, 1001, 0}, {999, 1001, 1}, {1001, 1000, 0}, {99999, 1000, 0}};
        for (int[] o : of) {
            OneWord word = crowd(2, "m1(w=1);r" + o[0] + "(w=0);r" + o[1] + TRUE);
            sentence(word, 0, 1);
            sentence(word, 1, 1);
            due(o[0] + " of 0 against " + o[1] + " of 1", word.byRules(3, 1, 1), o[2]);
        }
    }

    // ---- conditions ----

    @Of(part = "Terms", says = "C: PARTS with a | between two, one of which must hold")
    static void p05OneOfTheParts() {
        holds("g=5", true);
        holds("g=4", false);
        holds("g=5|g=4", true);
        holds("g=4|g=5", true);
        holds("g=4|g=6", false);
        holds("g=4|g=6|g=5", true);
        fault("m1(|g=5)", 1, 3);
        fault("m1(g=5|)", 1, 7);
        fault("m1(g=5||g=5)", 1, 7);
    }

    @Of(part = "Terms", says = "a PART: PIECES with an & between two, all of which must")
    static void p05AllOfThePieces() {
        holds("g=5&w=0", true);
        holds("g=4&w=0", false);
        holds("g=5&w=1", false);
        holds("g=5&w=0&l=2", false);
        holds("g=4&w=1|g=5", true);
        holds("g=5|g=4&w=1", true);
        holds("g=4|g=5&w=1", false);
        fault("m1(&g=5)", 1, 3);
        fault("m1(g=5&)", 1, 7);
        fault("m1(g=5&&g=5)", 1, 7);
    }

    @Of(part = "Terms", says = "a PIECE: !PIECE, (C), or E, one of < > =, and E")
    static void p05Pieces() {
        holds("!g=5", false);
        holds("!g=4", true);
        holds("!!g=5", true);
        holds("!g=4&g=4", false);
        holds("!(g=4&g=4)", true);
        holds("(g=4|g=5)&w=0", true);
        holds("(g=4|g=5)&w=1", false);
        fault("m1(g)", 1, 4);
        fault("m1(g=1=1)", 1, 6);
        fault("m1(g<>1)", 1, 5);
        fault("m1(g<=1)", 1, 5);
        fault("m1(!)", 1, 4);
        fault("m1(())", 1, 4);
    }

    @Of(part = "Terms", says = "one of < > =")
    static void p05BelowAboveAndAlike() {
        holds("g<4", false);
        holds("g<5", false);
        holds("g<6", true);
        holds("g>4", true);
        holds("g>5", false);
        holds("g>6", false);
        holds("g=4", false);
        holds("g=5", true);
        holds("g=6", false);
        holds("0-1<0", true);
        holds("0-1>0", false);
        holds("65536*32768<0", true);
        holds("65536*32768-1>65536*32768", true);
    }

    @Of(part = "Terms", says = "one of < > =")
    static void p05EachOfThreeHoldsOrNotForAllThatIsAroundIt() {
        String[] so = {"g<6", "g>4", "g=5"};
        String[] not = {"g<5", "g>5", "g=4"};
        for (int i = 0; i < 3; i++) {
            holds("!" + so[i], false);
            holds("!" + not[i], true);
            holds(so[i] + "&1=2", false);
            holds(so[i] + "|1=2", true);
            holds(not[i] + "&1=1", false);
            holds(not[i] + "|1=1", true);
        }
    }

    @Of(part = "Terms", says = "Of a C as much is asked, from the left, as matters")
    static void p05AsMuchAsMatters() {
        holds("1=1|1/0=1", true);
        holds("1=2|1/0=1", false);
        holds("1/0=1|1=1", false);
        holds("!(1=2&1/0=1)", true);
        holds("!(1=1&1/0=1)", false);
        holds("1=2&1/0=1|1=1", true);
        holds("1=1&1/0=1|1=1", false);
        holds("1=2&1=1&1/0=1|1=1", true);
        holds("1=2|1=1|1/0=1", true);
        holds("(1=1|1/0=1)&1=1", true);
        holds("!(1=1|1/0=1)|1=1", true);
        holds("1=1|1=2&1/0=1", true);
        holds("!1=1&1/0=1|1=1", true);
    }

    // ---- numbers ----

    @Of(part = "Terms", says = "from the left on")
    static void p05FromTheLeftOn() {
        reckons("20-5-3", 12);
        reckons("20-5+3", 18);
        reckons("2+3*4", 14);
        reckons("2*3+4", 10);
        reckons("60/4/3", 5);
        reckons("60/4*2", 30);
        reckons("17%5*3", 6);
        reckons("3*17%5", 1);
        reckons("20-[5-3]", 18);
    }

    @Of(part = "Terms", says = "E: TERMS with + or - between two")
    static void p05TermsHaveASignBetweenTwo() {
        reckons("4+5", 9);
        reckons("9-5", 4);
        reckons("5-9+6", 2);
        fault("m+1(1=1)", 1, 1);
        fault("m-1(1=1)", 1, 1);
        fault("m1+(1=1)", 1, 3);
        fault("m1-(1=1)", 1, 3);
        fault("m1+-1(1=1)", 1, 3);
    }

    @Of(part = "Terms", says = "a TERM: FACTORS with one of * / % between two")
    static void p05Factors() {
        reckons("20+[0-7]/2", 17);
        reckons("20+[0-7]%4", 17);
        reckons("20+7/[0-2]", 17);
        reckons("20+7%[0-4]", 23);
        fault("m*1(1=1)", 1, 1);
        fault("m1*(1=1)", 1, 3);
        fault("m1/(1=1)", 1, 3);
        fault("m1%(1=1)", 1, 3);
        fault("m1**1(1=1)", 1, 3);
    }

    @Of(part = "Terms", says = "a FACTOR: [E]")
    static void p05Brackets() {
        reckons("[5]", 5);
        reckons("2*[3+4]", 14);
        fault("m[](1=1)", 1, 2);
        fault("m[1(1=1)", 1, 3);
        fault("m1](1=1)", 1, 2);
        fault("m[1)(1=1)", 1, 3);
        fault("m(1)(1=1)", 1, 1);
        fault("m1([g=1])", 1, 5);
    }

    @Of(part = "Terms", says = "a number of one to five digits")
    static void p05NumbersOfOneToFiveDigits() {
        reckons("7", 7);
        reckons("00007", 7);
        reckons("00000", 0);
        reckons("99999-99998", 1);
        reckons("[99999+1]/10000", 10);
        fault("m000007(1=1)", 2, 6);
        fault("m1(g=123456)", 2, 10);
        fault("m1(g=12345)1", 1, 11);
    }

    @Of(part = "Terms", says = "or a letter")
    static void p05LettersAndNoOthers() {
        String known = "gwlpsdekaf";
        for (char letter = 'a'; letter <= 'z'; letter++) {
            if (known.indexOf(letter) >= 0) noFault("m" + letter + TRUE, 1);
            else fault("m" + letter + TRUE, 1, 1);
            fault("m" + (char) (letter - 32) + TRUE, 1, 1);
            fault("mg" + letter + TRUE, 1, 2);
        }
    }

    @Of(part = "Terms", says = "g THE GAP")
    static void p05LetterGap() {
        means("mg%32(1=1)", 1, 1);
        means("mg-32(1=1)", 63, 31);
        OneWord word = crowd(1, "mg-32(1=1)");
        word.say(0, 0);
        word.say(0, 100);
        due("63 at most", word.hearing(0, 1, 3), 31);
    }

    @Of(part = "Terms", says = "w who spoke, l who was heard ahead of it (8: nobody)")
    static void p05LettersWhoAndAhead() {
        OneWord word = crowd(8, "mw+l*10-50(l=8);mw+l*2(1=1)");
        word.say(7, 0);
        word.say(6, 1);
        due("nobody ahead of the first", word.hearing(0, 0, 3), 31);
        due("then who was heard", word.hearing(0, 1, 3), 20);
        due("as it is told", word.meaning(0, 1, 0, 8, 63), 30);
        due("0 is somebody", word.meaning(0, 1, 1, 0, 63), 1);
    }

    @Of(part = "Terms", says = "p THE GAP of that HEARING (63: none)")
    static void p05LetterGapBefore() {
        OneWord word = crowd(1, "mp-40(1=1)");
        word.say(0, 0);
        word.say(0, 41);
        word.say(0, 42);
        due("ahead of the first: none", word.hearing(0, 0, 3), 23);
        due("the first one's", word.hearing(0, 1, 3), 23);
        due("the second one's", word.hearing(0, 2, 3), 1);
        due("as told, 0", word.meaning(0, 1, 0, 0, 0), 0);
        due("as told, 63", word.meaning(0, 1, 0, 0, 63), 23);
    }

    @Of(part = "Terms", says = "s whether w is l (1, 0)")
    static void p05LetterSame() {
        OneWord word = crowd(8, "ms+5(1=1)");
        due("the same", word.meaning(0, 1, 7, 7, 1), 6);
        due("another", word.meaning(0, 1, 7, 6, 1), 5);
        due("nobody", word.meaning(0, 1, 7, 8, 1), 5);
        due("the same, 0", word.meaning(0, 1, 0, 0, 1), 6);
    }

    @Of(part = "Terms", says = "d THE WAY, e the EAR")
    static void p05LettersWayAndEar() {
        OneWord word = new OneWord();
        word.mouth(-50, -50, 0);
        word.mouth(50, 50, 0);
        tongue(word, "md-180+e(d>0);m3+e(1=1)");
        due("the longest", word.meaning(0, 1, 1, 8, 63), 20);
        due("to the other", word.meaning(1, 1, 0, 8, 63), 21);
        due("its own", word.meaning(1, 1, 1, 8, 63), 4);
    }

    @Of(part = "Terms", says = "(in m: k a f 0)")
    static void p05InMeaningsWishesAreNothing() {
        OneWord word = crowd(1, "m1+k+a+f(k=0&a=0&f=0)");
        sentence(word, 0, 1, 1, 1);
        due("as told", word.meaning(0, 1, 0, 8, 63), 1);
        due("in a crowd", word.soonest(1, -1), 2);
        OneWord rules = crowd(1, "m1+k+a+f(1=1);r1(k>0&a>0&f=1)");
        sentence(rules, 0, 1);
        due("by rules", rules.byRules(1, 5, 0), 0);
    }

    @Of(part = "Terms", says = "k how many MEANINGS are left to say, a the next one of these (0: none)")
    static void p05InRulesWhatIsLeftAndNext() {
        OneWord word = crowd(1, "m4(l=8);m31(1=1);r1(k=4&a=4|k=3&a=31)");
        sentence(word, 0, 4, 31, 1, 1);
        due("four left, then three, then nobody wants to", word.byRules(1, 9, 2), 2);
        due("both were said", word.byRules(1, 9, 1), 2);
        OneWord last = crowd(1, "m1(1=1);rk(1=1)");
        sentence(last, 0, 1);
        due("of one left", last.byRules(1, 9, 2), 1);
        due("none is left then", last.byRules(1, 9, 0), 0);
    }

    @Of(part = "Terms", says = "f whether it would MEAN that (1, 0)")
    static void p05InRulesWhetherItFits() {
        OneWord word = crowd(1, "m9(g=63);mg(1=1);rf(1=1)");
        sentence(word, 0, 9, 3);
        due("at 0 and at 3", word.byRules(1, 9, 0), 3);
        due("never when it does not fit", word.byRules(1, 9, 2), 2);
    }

    @Of(part = "Terms", says = "f whether it would MEAN that (1, 0)")
    static void p05WithoutAnyOtherLetter() {
        OneWord word = crowd(1, "m1(1=1);rf(1=1)");
        sentence(word, 0, 1);
        due("it would", word.byRules(1, 9, 1), 1);
        sentence(word, 0, 2);
        due("it would not", word.byRules(1, 9, 2), 0);
        tongue(word, "m1(1=1);r1-f(1=1)");
        due("so it wants to", word.byRules(1, 9, 2), 9);
    }

    @Of(part = "Terms", says = "All is reckoned with 32 bits, as the machine does")
    static void p05With32Bits() {
        reckons("65536*32768", 0);
        reckons("65536*32768-1", 31);
        reckons("65536*65536+5", 5);
        reckons("65536*65536*99999+6", 6);
        reckons("[65536*32768-1+1]/[65536*32768]", 1);
        reckons("99999*99999%31", (99999 * 99999) % 31);
        means("m3(65536*32768<0)", 5, 3);
    }

    @Of(part = "Terms", says = "All is reckoned with 32 bits, as the machine does")
    static void p05TheLeastNumberThroughMinusOne() {
        reckons("[65536*32768]/[0-1]", 0);
        means("m7([65536*32768]/[0-1]=65536*32768)", 5, 7);
        reckons("3+[65536*32768]%[0-1]", 3);
    }

    @Of(part = "Terms", says = "what is divided by 0 is REFUSED: then a C does not hold")
    static void p05ARefusedConditionDoesNotHold() {
        means("m5(1/0=0);m6(1=1)", 5, 6);
        means("m5(1%0=0);m6(1=1)", 5, 6);
        means("m5(0/0=0);m6(1=1)", 5, 6);
        means("m5(0=1/[g-5]);m6(1=1)", 5, 6);
        means("m5(0=1/[g-5]);m6(1=1)", 3, 5);
        means("m5(!1/0=0);m6(1=1)", 5, 6);
        means("m5(!(1/0=0)|1=1);m6(1=1)", 5, 6);
        means("m5(1/0=0)", 5, 0);
    }

    @Of(part = "Terms", says = "an E is 0")
    static void p05ARefusedNumberIs0() {
        means("m5/0(1=1);m6(1=1)", 5, 0);
        means("m5%0(1=1);m6(1=1)", 5, 0);
        means("m7+5/0(1=1);m6(1=1)", 5, 0);
        means("m7+0*[5/0](1=1);m6(1=1)", 5, 0);
        means("m9/[g-5](1=1)", 5, 0);
        means("m9/[g-5](1=1)", 6, 9);
        means("m9%[g-5](1=1)", 7, 1);
        OneWord word = crowd(1, "m1(1=1);r9+1/0(1=1);r5(1=1)");
        sentence(word, 0, 1);
        due("nobody wants to", word.byRules(1, 9, 2), 0);
    }

    // ---- faults ----

    @Of(part = "Terms", says = "FAULTS, the first from the left")
    static void p05TheFirstFromTheLeft() {
        fault("m1(1 =1);x123456", 1, 4);
        fault("m123456(1=1);x", 2, 6);
        fault("m[[[[[[[123456", 5, 7);
        fault("m123456[[[[[[[", 2, 6);
        fault("m1(1=1);".repeat(13) + "x1(1=1);m", 1, 104);
        fault("m1(1=1);".repeat(14) + "m123456", 4, 112);
    }

    @Of(part = "Terms", says = "1 what can't stand there (the end, too)")
    static void p05TheEndCanStandBehindAClauseAlone() {
        String text = "m[1+g]*2(!(g=1|w<2)&1>0);r1(1=1)";
        noFault(text, 2);
        for (int n = 1; n < text.length(); n++) {
            if (n == text.indexOf(';')) noFault(text.substring(0, n), 1);
            else fault(text.substring(0, n), 1, n);
        }
    }

    @Of(part = "Terms", says = "1 what can't stand there (the end, too)")
    static void p05OfAllBytesAFewCanStandThere() {
        String first = "mr";
        String factor = "[0123456789gwlpsdekaf";
        String behindFactor = "+-*/%(";
        String piece = "!(" + factor;
        for (int b = 0; b < 256; b++) {
            byteAt("", b, first);
            byteAt("m", b, factor);
            byteAt("mg", b, behindFactor);
            byteAt("mg(", b, piece);
            byteAt("mg(g", b, "+-*/%<>=");
            byteAt("mg(g=", b, factor);
            byteAt("mg(g=g", b, "+-*/%&|)");
            byteAt("mg(g=g)", b, ";");
            byteAt("mg(g=g);", b, first);
            byteAt("m[g", b, "+-*/%]");
        }
    }

    /** A byte that can't stand there is the fault; one that can, and is no end, leaves the fault to the end. */
    private static void byteAt(String ahead, int b, String can) {
        boolean stands = can.indexOf((char) b) >= 0;
        OneWord word = new OneWord();
        String text = ahead + (char) b;
        int answer = tongue(word, text);
        boolean ends = stands && b == ')';
        due("byte " + b + " behind " + ahead, answer, ends ? 1 : -1000 - (stands ? text.length() : ahead.length()));
    }

    @Of(part = "Terms", says = "2 a sixth digit, at it")
    static void p05ASixthDigit() {
        noFault("m12345(1=1)", 1);
        fault("m123456(1=1)", 2, 6);
        fault("m1234567(1=1)", 2, 6);
        fault("m000000(1=1)", 2, 6);
        fault("m12345+123456(1=1)", 2, 12);
        fault("m1(12345=123456", 2, 14);
        fault("m12345x(1=1)", 1, 6);
    }

    @Of(part = "Terms", says = "4 a 15th CLAUSE, at its letter (if that can stand there)")
    static void p05A15thClause() {
        String fourteen = "m1(1=1);".repeat(14);
        noFault(fourteen.substring(0, 111), 14);
        fault(fourteen, 1, 112);
        fault(fourteen + "m", 4, 112);
        fault(fourteen + "r", 4, 112);
        fault(fourteen + "mm", 4, 112);
        fault(fourteen + "x", 1, 112);
        fault(fourteen + ";", 1, 112);
        fault(fourteen + "1", 1, 112);
    }

    @Of(part = "Terms", says = "5 a seventh of ( [ ! that are open in one another, at it")
    static void p05ASeventhThatIsOpen() {
        noFault("m[[[[[[1]]]]]](1=1)", 1);
        fault("m[[[[[[[1]]]]]]](1=1)", 5, 7);
        noFault("m1((((((1=1))))))", 1);
        fault("m1(((((((1=1)))))))", 5, 8);
        noFault("m1(!!!!!1=1)", 1);
        fault("m1(!!!!!!1=1)", 5, 8);
        noFault("m1([[[[[1]]]]]=1)", 1);
        fault("m1([[[[[[1]]]]]]=1)", 5, 8);
        noFault("m1(1=[[[[[1]]]]])", 1);
        fault("m1(1=[[[[[[1]]]]]])", 5, 10);
        noFault("m1(!(!([1]=1)))", 1);
        fault("m1(!(!([[1]]=1)))", 5, 8);
        fault("m1(!(!(!(1=1))))", 5, 8);
        fault("m1(!(!((!1=1))))", 5, 8);
    }

    @Of(part = "Terms", says = "open in one another")
    static void p05WhatIsClosedCountsNoMore() {
        noFault("m[1]+[1]+[1]+[1]+[1]+[1]+[1](1=1)", 1);
        noFault("m1((1=1)&(1=1)&(1=1)&(1=1)&(1=1)&(1=1)&(1=1))", 1);
        noFault("m[[[[[[1]]]]]]+[[[[[[1]]]]]](1=1)", 1);
        noFault("m[[[[[[1]+[1]]]]]](1=1)", 1);
        fault("m[[[[[[1]+[[1]]]]]]](1=1)", 5, 11);
        noFault("m1((((((1=1)))))&(((((1=1))))))", 1);
        noFault("m1((((((1=1))))));m1((((((1=1))))))", 2);
    }

    @Of(part = "Terms", says = "the ( of the CLAUSE counts")
    static void p05TheBracketOfTheClauseCounts() {
        noFault("m1((((((1=1))))))", 1);
        fault("m1(((((((", 5, 8);
        noFault("m1(!!!!!1=1)", 1);
        fault("m1(!!!!!!", 5, 8);
    }

    @Of(part = "Terms", says = "a ! is open till its PIECE ends")
    static void p05AnExclamationMarkIsOpenTillItsPieceEnds() {
        noFault("m1(!1=1&!1=1&!1=1&!1=1&!1=1&!1=1&!1=1)", 1);
        noFault("m1(!!!!!1=1&!!!!!1=1|!!!!!1=1)", 1);
        noFault("m1(!(!1=1)&!!!!!1=1)", 1);
        noFault("m1(!!!![1]=[1])", 1);
        fault("m1(!!!![1]=[[1]])", 5, 12);
        noFault("m1(!!!!1=1&[[[[[1]]]]]=1)", 1);
        noFault("m1((((!1=1&((1=1))))))", 1);
        fault("m1((((!1=1&(((1=1)))))))", 5, 13);
        fault("m1((((!(1=1&(1=1))))))", 5, 12);
    }

    @Of(part = "Terms", says = "the E of a CLAUSE stands ahead of it")
    static void p05TheNumberOfAClauseStandsAhead() {
        noFault("m[[[[[[1]]]]]]((((((1=1))))))", 1);
        fault("m[[[[[[[1]]]]]]](1=1)", 5, 7);
        noFault("m[[[[[[1]]]]]]([[[[[1]]]]]=1)", 1);
        fault("m[[[[[[1]]]]]]([[[[[[1]]]]]]=1)", 5, 20);
    }

    @Of(part = "Terms", says = "5 a seventh of ( [ ! that are open in one another, at it")
    static void p05SixThatAreOpenAreReckoned() {
        reckons("1+1*[1+1*[1+1*[1+1*[1+1*[1+1*[1+1*2]]]]]]", 9);
        holds("1+1*[1+1*[1+1*[1+1*[1+1*[1+1*2]]]]]=1+1*[1+1*[1+1*[1+1*[1+1*[1+1*2]]]]]", true);
        holds("!(!!1+1*[1+1*2]=1+1*[1+1*2])", false);
    }

    // ---- Promise 11 ----

    private static OneWord asTold() {
        OneWord word = new OneWord();
        for (int i = 0; i < 3; i++) word.mouth(i * 2, 0, 0);
        tongue(word, "mg%7+w*2+l+p%5+e*3(1=1)");
        return word;
    }

    @Of(part = "Promise 11", says = "a GAP (1 to 63)")
    static void p11GapsAre1To63() {
        OneWord word = asTold();
        due("0", word.meaning(0, 0, 0, 0, 0), -1);
        due("1", word.meaning(0, 1, 0, 0, 0), 1);
        due("63", word.meaning(0, 63, 0, 0, 0), 0);
        due("62", word.meaning(0, 62, 0, 0, 0), 6);
        due("64", word.meaning(0, 64, 0, 0, 0), -1);
    }

    @Of(part = "Promise 11", says = "What a HEARING would MEAN: an EAR")
    static void p11EarsThatAreThere() {
        OneWord word = asTold();
        due("-1", word.meaning(-1, 1, 0, 0, 0), -1);
        due("0", word.meaning(0, 1, 0, 0, 0), 1);
        due("2", word.meaning(2, 1, 0, 0, 0), 7);
        due("3", word.meaning(3, 1, 0, 0, 0), -1);
        due("8", word.meaning(8, 1, 0, 0, 0), -1);
    }

    @Of(part = "Promise 11", says = ", who,")
    static void p11SpeakersThatAreThere() {
        OneWord word = asTold();
        due("-1", word.meaning(0, 1, -1, 0, 0), -1);
        due("2", word.meaning(0, 1, 2, 0, 0), 5);
        due("3", word.meaning(0, 1, 3, 0, 0), -1);
        due("8", word.meaning(0, 1, 8, 0, 0), -1);
    }

    @Of(part = "Promise 11", says = "who ahead (0 to 8)")
    static void p11WhoAheadIs0To8() {
        OneWord word = asTold();
        due("-1", word.meaning(0, 1, 0, -1, 0), -1);
        due("0", word.meaning(0, 1, 0, 0, 0), 1);
        due("2", word.meaning(0, 1, 0, 2, 0), 3);
        due("8: nobody", word.meaning(0, 1, 0, 8, 0), 9);
        due("9", word.meaning(0, 1, 0, 9, 0), -1);
    }

    @Of(part = "Promise 11", says = "its GAP (0 to 63)")
    static void p11ItsGapIs0To63() {
        OneWord word = asTold();
        due("-1", word.meaning(0, 1, 0, 0, -1), -1);
        due("0", word.meaning(0, 1, 0, 0, 0), 1);
        due("63", word.meaning(0, 1, 0, 0, 63), 4);
        due("64", word.meaning(0, 1, 0, 0, 64), -1);
    }

    @Of(part = "Promise 11", says = "NONE: no such ones")
    static void p11NoSuchMeaningChangesNothing() {
        int[][] bad = {{-1, 1, 0, 0, 0}, {3, 1, 0, 0, 0}, {0, 0, 0, 0, 0}, {0, 64, 0, 0, 0}, {0, 1, -1, 0, 0}, {0, 1, 3, 0, 0},
            {0, 1, 0, -1, 0}, {0, 1, 0, 9, 0}, {0, 1, 0, 0, -1}, {0, 1, 0, 0, 64}, {LEAST, 1, 0, 0, 0}, {MOST, 1, 0, 0, 0},
            {0, LEAST, 0, 0, 0}, {0, MOST, 0, 0, 0}, {0, 1, LEAST, 0, 0}, {0, 1, MOST, 0, 0}, {0, 1, 0, LEAST, 0}, {0, 1, 0, MOST, 0},
            {0, 1, 0, 0, LEAST}, {0, 1, 0, 0, MOST}};
        for (int[] b : bad) {
            refused("meaning " + b[0] + " " + b[1] + " " + b[2] + " " + b[3] + " " + b[4],
                word -> word.meaning(b[0], b[1], b[2], b[3], b[4]), -1);
        }
    }

    @Of(part = "Promise 11", says = "What a HEARING would MEAN")
    static void p11WhatWasHeardIsNotAsked() {
        OneWord word = asTold();
        int before = word.meaning(1, 9, 2, 8, 63);
        word.say(0, 5);
        word.say(1, 6);
        due("the same", word.meaning(1, 9, 2, 8, 63), before);
    }
}
