/** Terms II and promises 6 to 20, sentence by sentence: the last that is still so, and the first that isn't. */
public final class WordEdgesTest {
    private static final Check CHECK = new Check();
    private static final int LOW = Integer.MIN_VALUE;
    private static final int HIGH = Integer.MAX_VALUE;
    // Each word is one letter longer than the one ahead.
    private static final String STAIR = "a ab abc abcd abcde abcdef";

    public static void main(String[] args) {
        wordsHaveNumbersByLines();
        guestsTooByLines();
        theLastNumbers();
        goodByChairs();
        goodIfItIsNotBarred();
        lettersOfAllGuests();
        whatIsToldOfAWord();
        noSuchWordOrWhat();
        itsLetters();
        noSuchLetter();
        growsAny();
        growsEnds();
        growsBack();
        growsByOneLetterMore();
        growsOfRepeatedLetters();
        growsRefused();
        anEmptyTableBecomesAWordOfOneLetter();
        chainOfNought();
        chainOfFive();
        chainIsTheLongest();
        chainIsOfGoodWords();
        chainRefused();
        ladderOfNoSteps();
        ladderOfMostSteps();
        ladderUpAndDown();
        ladderIfThereIsNone();
        ladderOfGoodWords();
        ladderNotThroughAnEmptyTable();
        ladderFirstByNumbers();
        ladderRefused();
        rungs();
        rungRefused();
        grundyOfWords();
        grundyOfAnEmptyTable();
        grundyRefused();
        planOfAsManyAsTables();
        planWithOneTwice();
        planNeedsNoLetterMoreOften();
        planOfGoodWords();
        bestIsOfMostSat();
        bestThenOfMostWorth();
        bestThenTheFirstByNumbers();
        bestOfNone();
        bestOfAllEight();
        planRefused();
        richestOfAnyPlan();
        lessByActs();
        fewestTables();
        fewestIfThereIsNone();
        wantedNone();
        wantedMany();
        wantedIfItCannotBe();
        wantedTheFewest();
        wantedTheFirstByNumbers();
        wantsRising();
        wantsRefused();
        gainsOfEveryLetter();
        gainsOfANinthGuest();
        gainsRefused();
        noInn();
        theNightDoesNotMatter();
        CHECK.end();
    }

    // ---- II: numbers, good words, letters

    private static void wordsHaveNumbersByLines() {
        CHECK.part("II: WORDS have numbers by LINES");
        WordTables x = Check.inn("word b worth 7;guest zoe;word d worth 8;inn tables 1 chairs 6 grows any;likely c 1;word a worth 9;"
            + "guest al,bo;word c worth 10");
        int[] letters = {1, 3, 0, 2};
        for (int w = 0; w < 4; w++) {
            CHECK.granted(x, "letter(" + w + ", 0)", x.letter(w, 0), letters[w]);
            CHECK.granted(x, "word(" + w + ", 1)", x.word(w, 1), 7 + w);
        }
        CHECK.refused(x, "word(4, 0)", x.word(4, 0), 1);
    }

    private static void guestsTooByLines() {
        CHECK.part("II: guests, too");
        WordTables x = Check.inn("guest zoe,yan;word a worth 1;guest al;inn tables 1 chairs 6 grows any;guest bo,cy");
        int[] letters = {25, 24, 0, 1, 2};
        for (int g = 0; g < 5; g++) {
            CHECK.granted(x, "guest(" + g + ")", x.guest(g), letters[g]);
        }
        CHECK.refused(x, "guest(5)", x.guest(5), 1);
    }

    private static void theLastNumbers() {
        CHECK.part("II: the last WORD of 24, the last guest of 8");
        String words = "a b c d e f g h i j k l m n o p q r s t u v w";
        WordTables x = Told.inn("1 1 any", words, "a,b,c,d,e,f,g");
        CHECK.granted(x, "word(22, 0), of 23", x.word(22, 0), 1);
        CHECK.refused(x, "word(23, 0), of 23", x.word(23, 0), 1);
        CHECK.granted(x, "guest(6), of 7", x.guest(6), 6);
        CHECK.refused(x, "guest(7), of 7", x.guest(7), 1);
        x = Told.inn("1 1 any", words + " x:99", "a,b,c,d,e,f,g,x");
        CHECK.granted(x, "word(23, 1), of 24", x.word(23, 1), 99);
        CHECK.granted(x, "letter(23, 0)", x.letter(23, 0), 23);
        CHECK.granted(x, "chain(23)", x.chain(23), 0);
        CHECK.granted(x, "ladder(23, 23)", x.ladder(23, 23), 0);
        CHECK.granted(x, "plan(0)", x.plan(0), 23);
        CHECK.refused(x, "word(24, 0), of 24", x.word(24, 0), 1);
        CHECK.refused(x, "letter(24, 0)", x.letter(24, 0), 1);
        CHECK.refused(x, "grows(24, 23)", x.grows(24, 23), 1);
        CHECK.refused(x, "grows(23, 24)", x.grows(23, 24), 1);
        CHECK.refused(x, "chain(24)", x.chain(24), 1);
        CHECK.refused(x, "ladder(24, 24)", x.ladder(24, 24), 1);
        CHECK.refused(x, "rung(24, 24, 0)", x.rung(24, 24, 0), 1);
        CHECK.refused(x, "grundy(24)", x.grundy(24), 1);
        CHECK.granted(x, "guest(7), of 8", x.guest(7), 23);
        CHECK.refused(x, "guest(8), of 8", x.guest(8), 1);
    }

    private static void goodByChairs() {
        CHECK.part("II: no more letters than there are chairs");
        for (int chairs = 1; chairs <= 6; chairs++) {
            WordTables x = Told.inn("1 " + chairs + " any", STAIR, "al");
            for (int w = 0; w < 6; w++) {
                CHECK.granted(x, "word(" + w + ", 3), chairs " + chairs, x.word(w, 3), w + 1 <= chairs ? 1 : 0);
                CHECK.granted(x, "word(" + w + ", 2)", x.word(w, 2), 0);
            }
        }
    }

    private static void goodIfItIsNotBarred() {
        CHECK.part("II: GOOD if it isn't barred");
        WordTables x = Told.inn("1 2 any", "a b! ab! abc!", "al");
        int[] good = {1, 0, 0, 0};
        int[] barred = {0, 1, 1, 1};
        int[] goodThen = {1, 1, 1, 0};
        for (int w = 0; w < 4; w++) {
            CHECK.granted(x, "word(" + w + ", 3)", x.word(w, 3), good[w]);
            CHECK.granted(x, "word(" + w + ", 2)", x.word(w, 2), barred[w]);
            x.bar(w, false);
            CHECK.granted(x, "word(" + w + ", 3), not any more", x.word(w, 3), goodThen[w]);
            CHECK.granted(x, "word(" + w + ", 2), not any more", x.word(w, 2), 0);
            x.bar(w, true);
            CHECK.granted(x, "word(" + w + ", 3), barred", x.word(w, 3), 0);
        }
    }

    private static void lettersOfAllGuests() {
        CHECK.part("II: LETTERS of all guests");
        // The first letters alone, each as often as it is there.
        WordTables x = Told.inn("1 3 any", "ban:9 bb", "banana,bob");
        CHECK.granted(x, "most", x.most(), 2);
        CHECK.granted(x, "plan(0)", x.plan(0), 1);
        CHECK.granted(x, "guest(0)", x.guest(0), 1);
        CHECK.granted(x, "guest(1)", x.guest(1), 1);
        x = Told.inn("1 3 any", "bbb", "banana,bob");
        CHECK.granted(x, "most, one b too few", x.most(), 0);
    }

    // ---- 6, 7: what is told of a word

    private static void whatIsToldOfAWord() {
        CHECK.part("6: letters, worth, barred, GOOD");
        WordTables x = Told.inn("1 6 any", "a:0 abcdef:99 b:50!", "al");
        int[][] due = {{1, 0, 0, 1}, {6, 99, 0, 1}, {1, 50, 1, 0}};
        for (int w = 0; w < 3; w++) {
            for (int what = 0; what < 4; what++) {
                CHECK.granted(x, "word(" + w + ", " + what + ")", x.word(w, what), due[w][what]);
            }
        }
    }

    private static void noSuchWordOrWhat() {
        CHECK.part("6: NONE: 1");
        WordTables x = Told.inn("1 6 any", "a b c", "al");
        int[][] refused = {{-1, 0}, {3, 0}, {LOW, 0}, {HIGH, 0}, {0, -1}, {0, 4}, {0, LOW}, {0, HIGH}, {2, 4}, {3, 4}, {-1, -1}};
        for (int[] of : refused) {
            CHECK.refused(x, "word(" + of[0] + ", " + of[1] + ")", x.word(of[0], of[1]), 1);
        }
        CHECK.granted(x, "word(2, 3)", x.word(2, 3), 1);
    }

    private static void itsLetters() {
        CHECK.part("7: its i-th letter (0 a, 1 b, ..)");
        WordTables x = Told.inn("1 6 any", "z azazaz! ba", "al");
        CHECK.granted(x, "letter(0, 0)", x.letter(0, 0), 25);
        for (int i = 0; i < 6; i++) {
            CHECK.granted(x, "letter(1, " + i + "), of a barred one", x.letter(1, i), i % 2 * 25);
        }
        CHECK.granted(x, "letter(2, 0)", x.letter(2, 0), 1);
        CHECK.granted(x, "letter(2, 1)", x.letter(2, 1), 0);
    }

    private static void noSuchLetter() {
        CHECK.part("7: NONE: 1");
        WordTables x = Told.inn("1 1 any", "a abcdef", "al");
        int[][] refused = {{0, 1}, {0, -1}, {1, 6}, {1, -1}, {1, LOW}, {1, HIGH}, {-1, 0}, {2, 0}, {LOW, 0}, {HIGH, 0}};
        for (int[] of : refused) {
            CHECK.refused(x, "letter(" + of[0] + ", " + of[1] + ")", x.letter(of[0], of[1]), 1);
        }
        CHECK.granted(x, "letter(1, 5), of one too long for the chairs", x.letter(1, 5), 5);
    }

    // ---- II and 8: growing

    private static void grow(WordTables x, int word, int other, int due) {
        CHECK.granted(x, "grows(" + word + ", " + other + ")", x.grows(word, other), due);
    }

    /** From "bd": ahead of it, in its midst, behind it. */
    private static void growFromBd(String manner, int ahead, int amid, int behind) {
        WordTables x = Told.inn("1 6 " + manner, "bd abd bcd bde", "al");
        grow(x, 0, 1, ahead);
        grow(x, 0, 2, amid);
        grow(x, 0, 3, behind);
    }

    private static void growsAny() {
        CHECK.part("II: any: anywhere");
        growFromBd("any", 0, 2, 4);
    }

    private static void growsEnds() {
        CHECK.part("II: ends: ahead of it, or behind it");
        growFromBd("ends", 0, -2, 4);
    }

    private static void growsBack() {
        CHECK.part("II: back: behind it");
        growFromBd("back", -2, -2, 4);
    }

    private static void growsByOneLetterMore() {
        CHECK.part("II: by one letter more");
        WordTables x = Told.inn("1 6 any", STAIR + " z zz dcba", "al");
        for (int w = 0; w < 6; w++) {
            for (int v = 0; v < 6; v++) {
                grow(x, w, v, v == w + 1 ? v : -2);
            }
        }
        grow(x, 0, 6, -2);
        grow(x, 0, 7, -2);
        grow(x, 6, 7, 25);
        // One letter more, but the others in another order.
        grow(x, 2, 8, -2);
        x = Told.inn("1 6 any", "ab bca acb xab axb", "al");
        grow(x, 0, 1, -2);
        grow(x, 0, 2, 2);
        grow(x, 0, 3, 23);
        grow(x, 0, 4, 23);
    }

    private static void growsOfRepeatedLetters() {
        CHECK.part("II: by a letter that it has already");
        String[] manners = {"any", "ends", "back"};
        int[][] due = {{0, 1, 0, 0, 1}, {0, 1, 0, 0, -2}, {-2, 1, -2, 0, -2}};
        for (int m = 0; m < 3; m++) {
            // ab to aab, to abb, a to aa, aa to aaa; bab to bbab lies ahead, abab to abbab amid.
            WordTables x = Told.inn("1 6 " + manners[m], "ab aab abb aba bab aa aaa abab abbab ba baba", "al");
            grow(x, 0, 1, due[m][0]);
            grow(x, 0, 2, due[m][1]);
            grow(x, 9, 3, due[m][2]);
            grow(x, 5, 6, due[m][3]);
            grow(x, 7, 8, due[m][4]);
            grow(x, 3, 7, 1);
            grow(x, 4, 10, 0);
        }
    }

    private static void growsRefused() {
        CHECK.part("8: NONE: 1; 5 (one isn't GOOD)");
        WordTables x = Told.inn("1 2 any", "a ab! abc b bc", "al");
        int[][] noSuch = {{-1, 0}, {0, -1}, {5, 0}, {0, 5}, {LOW, 0}, {0, HIGH}, {1, 5}, {5, 1}, {-1, 2}};
        for (int[] of : noSuch) {
            CHECK.refused(x, "grows(" + of[0] + ", " + of[1] + ")", x.grows(of[0], of[1]), 1);
        }
        int[][] notGood = {{0, 1}, {1, 0}, {1, 1}, {1, 2}, {2, 0}, {0, 2}, {4, 2}, {2, 2}};
        for (int[] of : notGood) {
            CHECK.refused(x, "grows(" + of[0] + ", " + of[1] + ")", x.grows(of[0], of[1]), 5);
        }
        grow(x, 3, 4, 2);
        grow(x, 4, 4, -2);
        x.bar(1, false);
        grow(x, 0, 1, 1);
    }

    private static void anEmptyTableBecomesAWordOfOneLetter() {
        CHECK.part("II: an empty table becomes a GOOD WORD of one letter");
        for (String manner : new String[] {"any", "ends", "back"}) {
            WordTables x = Told.inn("1 6 " + manner, "aa a b!", "al,bo");
            CHECK.denied(x, "seat(0, 0), of two letters", x.seat(0, 0), 5);
            CHECK.granted(x, "can", x.can(), 1);
            CHECK.allowed(x, "seat(0, 1), of one", x.seat(0, 1));
            x.night(0);
            x.stand();
            CHECK.granted(x, "can, it being barred", x.can(), 0);
            CHECK.denied(x, "seat(0, 2), barred", x.seat(0, 2), 5);
        }
    }

    // ---- II and 9: chains

    private static void chainOfNought() {
        CHECK.part("II: CHAIN of a WORD that cannot grow");
        WordTables x = Told.inn("1 6 any", "a abc abcdef b ca", "al");
        int[] due = {1, 0, 0, 0, 0};
        for (int w = 0; w < 5; w++) {
            CHECK.granted(x, "chain(" + w + ")", x.chain(w), due[w]);
        }
    }

    private static void chainOfFive() {
        CHECK.part("II: CHAIN from one letter to six");
        for (String manner : new String[] {"any", "ends", "back"}) {
            WordTables x = Told.inn("1 6 " + manner, STAIR, "al");
            for (int w = 0; w < 6; w++) {
                CHECK.granted(x, manner + ": chain(" + w + ")", x.chain(w), 5 - w);
            }
        }
    }

    private static void chainIsTheLongest() {
        CHECK.part("II: how often it can grow at most");
        WordTables x = Told.inn("1 6 back", "a ab ac ad acx acxy adx", "al");
        int[] due = {3, 0, 2, 1, 1, 0, 0};
        for (int w = 0; w < 7; w++) {
            CHECK.granted(x, "chain(" + w + ")", x.chain(w), due[w]);
        }
    }

    private static void chainIsOfGoodWords() {
        CHECK.part("II: one GOOD WORD after the other");
        WordTables x = Told.inn("1 6 back", "a ab abc! abcd", "al");
        int[] due = {1, 0, -1, 0};
        for (int w = 0; w < 4; w++) {
            CHECK.due("chain(" + w + "), abc being barred", x.chain(w), due[w]);
        }
        for (int chairs = 1; chairs <= 6; chairs++) {
            x = Told.inn("1 " + chairs + " any", STAIR, "al");
            CHECK.granted(x, "chain(0), chairs " + chairs, x.chain(0), chairs - 1);
            CHECK.granted(x, "chain of the longest", x.chain(chairs - 1), 0);
        }
    }

    private static void chainRefused() {
        CHECK.part("9: NONE: 1; 5");
        WordTables x = Told.inn("1 2 back", "a ab! abc", "al");
        for (int w : new int[] {-1, 3, LOW, HIGH}) {
            CHECK.refused(x, "chain(" + w + ")", x.chain(w), 1);
        }
        CHECK.refused(x, "chain(1), barred", x.chain(1), 5);
        CHECK.refused(x, "chain(2), too long", x.chain(2), 5);
    }

    // ---- II and 10, 11: ladders

    private static void ladderDue(WordTables x, int... rungs) {
        int from = rungs[0];
        int to = rungs[rungs.length - 1];
        String ends = "(" + from + ", " + to;
        CHECK.granted(x, "ladder" + ends + ")", x.ladder(from, to), rungs.length - 1);
        for (int i = 0; i < rungs.length; i++) {
            CHECK.granted(x, "rung" + ends + ", " + i + ")", x.rung(from, to, i), rungs[i]);
        }
        CHECK.refused(x, "rung" + ends + "), behind the last", x.rung(from, to, rungs.length), 1);
        CHECK.refused(x, "rung" + ends + "), ahead of the first", x.rung(from, to, -1), 1);
    }

    private static void noLadder(WordTables x, int from, int to) {
        CHECK.granted(x, "ladder(" + from + ", " + to + ")", x.ladder(from, to), -2);
        CHECK.refused(x, "rung(" + from + ", " + to + ", 0)", x.rung(from, to, 0), 6);
    }

    private static void ladderOfNoSteps() {
        CHECK.part("II: LADDER from a WORD to itself");
        WordTables x = Told.inn("1 6 any", "a ab b", "al");
        ladderDue(x, 0);
        ladderDue(x, 1);
        ladderDue(x, 2);
    }

    private static void ladderOfMostSteps() {
        CHECK.part("II: LADDER through all WORDS");
        // a ab b bc c .. l lm: 24 words, each a step from the next one.
        StringBuilder words = new StringBuilder();
        int[] rungs = new int[24];
        for (int i = 0; i < 24; i++) {
            char first = (char) ('a' + i / 2);
            words.append(i == 0 ? "" : " ").append(first).append(i % 2 == 0 ? "" : String.valueOf((char) (first + 1)));
            rungs[i] = i;
        }
        WordTables x = Told.inn("1 6 any", words.toString(), "al");
        ladderDue(x, rungs);
        CHECK.granted(x, "ladder(23, 0)", x.ladder(23, 0), 23);
        CHECK.granted(x, "rung(23, 0, 23)", x.rung(23, 0, 23), 0);
        CHECK.granted(x, "rung(23, 0, 1)", x.rung(23, 0, 1), 22);
    }

    private static void ladderUpAndDown() {
        CHECK.part("II: each growing or the other way round");
        WordTables x = Told.inn("1 6 back", "a ab abc abd ac", "al");
        ladderDue(x, 0, 1, 2);
        ladderDue(x, 2, 1, 0);
        ladderDue(x, 2, 1, 3);
        ladderDue(x, 2, 1, 0, 4);
        ladderDue(x, 4, 0, 1, 3);
    }

    private static void ladderIfThereIsNone() {
        CHECK.part("10: -2 if there is none");
        WordTables x = Told.inn("1 6 back", "a ab c cd abcd", "al");
        noLadder(x, 0, 2);
        noLadder(x, 2, 0);
        noLadder(x, 1, 4);
        noLadder(x, 4, 3);
        ladderDue(x, 2, 3);
    }

    private static void ladderOfGoodWords() {
        CHECK.part("II: LADDER through GOOD WORDS alone");
        WordTables x = Told.inn("1 2 any", "a ab b abc c ac!", "al");
        ladderDue(x, 0, 1, 2);
        noLadder(x, 0, 4);
        x.bar(5, false);
        ladderDue(x, 0, 5, 4);
        ladderDue(x, 2, 1, 0, 5, 4);
        x.bar(0, true);
        noLadder(x, 2, 4);
        x = Told.inn("1 3 any", "a ab b abc c ac!", "al");
        noLadder(x, 0, 4);
        ladderDue(x, 0, 1, 3);
        x.bar(5, false);
        ladderDue(x, 2, 1, 0, 5, 4);
    }

    private static void ladderNotThroughAnEmptyTable() {
        CHECK.part("II: from GOOD WORD to GOOD WORD");
        noLadder(Told.inn("3 6 any", "a b", "al"), 0, 1);
        noLadder(Told.inn("3 6 any", "a b", "al"), 1, 0);
    }

    private static void ladderFirstByNumbers() {
        CHECK.part("II: by like ones the first, by numbers, from the beginning on");
        // a to b: by ab or ba.
        ladderDue(Told.inn("1 6 any", "a ab ba b", "al"), 0, 1, 3);
        ladderDue(Told.inn("1 6 any", "a ba ab b", "al"), 3, 1, 0);
        // The first step tells, whatever comes behind it: a ac c bc b, or a ad d bd b.
        ladderDue(Told.inn("1 6 any", "a bd d c bc ac ad b", "al"), 0, 5, 3, 4, 7);
        ladderDue(Told.inn("1 6 any", "a bd d c bc ac ad b", "al"), 7, 1, 2, 6, 0);
        // Fewer steps are ahead of smaller numbers.
        ladderDue(Told.inn("1 6 any", "ac c bc a b ab", "al"), 3, 5, 4);
    }

    private static void ladderRefused() {
        CHECK.part("10: NONE: 1; 5 (one isn't GOOD)");
        WordTables x = Told.inn("1 2 any", "a ab! abc b", "al");
        int[][] noSuch = {{-1, 0}, {0, -1}, {4, 0}, {0, 4}, {LOW, 0}, {0, HIGH}, {1, 4}, {4, 2}, {-1, -1}};
        for (int[] of : noSuch) {
            CHECK.refused(x, "ladder(" + of[0] + ", " + of[1] + ")", x.ladder(of[0], of[1]), 1);
        }
        int[][] notGood = {{0, 1}, {1, 0}, {1, 1}, {2, 2}, {0, 2}, {2, 3}, {1, 2}};
        for (int[] of : notGood) {
            CHECK.refused(x, "ladder(" + of[0] + ", " + of[1] + ")", x.ladder(of[0], of[1]), 5);
        }
        noLadder(x, 0, 3);
    }

    private static void rungs() {
        CHECK.part("11: the WORD behind the i-th step of it (0: the first one)");
        WordTables x = Told.inn("1 6 any", STAIR, "al");
        ladderDue(x, 0, 1, 2, 3, 4, 5);
        ladderDue(x, 5, 4, 3, 2, 1, 0);
        ladderDue(x, 2, 3);
    }

    private static void rung(WordTables x, int word, int other, int i, int number) {
        CHECK.refused(x, "rung(" + word + ", " + other + ", " + i + ")", x.rung(word, other, i), number);
    }

    private static void rungRefused() {
        CHECK.part("11: NONE: 1 (i, too); 5; 6 (there is none)");
        WordTables x = Told.inn("1 2 any", "a ab b c! abc", "al");
        rung(x, -1, 0, 0, 1);
        rung(x, 0, -1, 0, 1);
        rung(x, 5, 0, 0, 1);
        rung(x, 0, 5, 0, 1);
        rung(x, LOW, 0, 0, 1);
        rung(x, 0, HIGH, 0, 1);
        rung(x, 0, 2, -1, 1);
        rung(x, 0, 2, 3, 1);
        rung(x, 0, 2, LOW, 1);
        rung(x, 0, 2, HIGH, 1);
        rung(x, 0, 0, 1, 1);
        rung(x, 3, 5, 0, 1);
        rung(x, 0, 3, 0, 5);
        rung(x, 3, 0, 0, 5);
        rung(x, 3, 3, 0, 5);
        rung(x, 0, 4, 0, 5);
        rung(x, 4, 4, 0, 5);
        rung(x, 0, 3, -1, 1);
        rung(x, 0, 3, HIGH, 5);
        x.bar(3, false);
        rung(x, 0, 3, -1, 1);
        rung(x, 0, 3, HIGH, 6);
        rung(x, 0, 3, 0, 6);
        rung(x, 3, 0, 0, 6);
        rung(x, 3, 0, 1, 6);
        CHECK.granted(x, "rung(3, 3, 0)", x.rung(3, 3, 0), 3);
    }

    // ---- 12: grundies

    private static void grundyOfWords() {
        CHECK.part("III: GRUNDY: the least number that none of those has that it can become");
        // ac, abd: 0. ab to abd: 1. a to ab, ac: 2. b to ab: 0. abc (a gap) can be made of ab and ac.
        WordTables x = Told.inn("1 6 any", "a ab ac abd b", "al");
        int[] due = {2, 1, 0, 0, 0};
        for (int w = 0; w < 5; w++) {
            CHECK.granted(x, "grundy(" + w + ")", x.grundy(w), due[w]);
        }
        // A number left out: those that it becomes have 0 and 2, or 1 alone.
        x = Told.inn("1 6 back", "a ab ac abx aby abyz", "al");
        int[] gap = {1, 2, 0, 0, 1, 0};
        for (int w = 0; w < 6; w++) {
            CHECK.granted(x, "grundy(" + w + "), a gap", x.grundy(w), gap[w]);
        }
        x = Told.inn("1 6 back", STAIR, "al");
        for (int w = 0; w < 6; w++) {
            CHECK.granted(x, "grundy(" + w + "), a stair", x.grundy(w), (5 - w) % 2);
        }
        x.bar(5, true);
        CHECK.granted(x, "grundy(4), the last being barred", x.grundy(4), 0);
        CHECK.granted(x, "grundy(3)", x.grundy(3), 1);
    }

    private static void grundyOfAnEmptyTable() {
        CHECK.part("12: of an empty table, if the WORD is -1");
        CHECK.due("nothing it can become", Told.inn("1 6 any", "ab", "al").grundy(-1), 0);
        CHECK.due("a", Told.inn("1 6 any", "a", "al").grundy(-1), 1);
        CHECK.due("a, that becomes ab", Told.inn("1 6 any", "a ab", "al").grundy(-1), 0);
        CHECK.due("a, that becomes ab, and c", Told.inn("1 6 any", "a ab c", "al").grundy(-1), 2);
        CHECK.due("a, that is barred", Told.inn("1 6 any", "a! ab", "al").grundy(-1), 0);
        CHECK.due("a, that becomes ab, too long", Told.inn("1 1 any", "a ab", "al").grundy(-1), 1);
        WordTables x = Told.inn("1 6 any", "a ab", "al");
        x.come(1);
        CHECK.granted(x, "whatever the tables are", x.grundy(-1), 0);
    }

    private static void grundyRefused() {
        CHECK.part("12: NONE: 1; 5 (it isn't GOOD)");
        WordTables x = Told.inn("1 2 any", "a ab! abc", "al");
        for (int w : new int[] {-2, 3, LOW, HIGH}) {
            CHECK.refused(x, "grundy(" + w + ")", x.grundy(w), 1);
        }
        CHECK.refused(x, "grundy(1), barred", x.grundy(1), 5);
        CHECK.refused(x, "grundy(2), too long", x.grundy(2), 5);
        CHECK.granted(x, "grundy(-1)", x.grundy(-1), 1);
    }

    // ---- II and 13 to 15: the best plan

    private static void best(WordTables x, int sat, int worth, int... plan) {
        CHECK.granted(x, "most", x.most(), sat);
        CHECK.granted(x, "worth", x.worth(), worth);
        for (int i = 0; i < plan.length; i++) {
            CHECK.granted(x, "plan(" + i + ")", x.plan(i), plan[i]);
        }
        CHECK.refused(x, "plan(" + plan.length + ")", x.plan(plan.length), 1);
    }

    private static void planOfAsManyAsTables() {
        CHECK.part("II: up to as many GOOD WORDS as there are tables");
        best(Told.inn("1 6 any", "a:2 b:3 c:5 d:7", "a,b,c,d"), 1, 7, 3);
        best(Told.inn("2 6 any", "a:2 b:3 c:5 d:7", "a,b,c,d"), 2, 12, 2, 3);
        best(Told.inn("3 6 any", "a:2 b:3 c:5 d:7", "a,b,c,d"), 3, 15, 1, 2, 3);
        best(Told.inn("3 6 any", "a:2 b:3 c:5 d:7", "a,b"), 2, 5, 0, 1, -2);
        best(Told.inn("3 6 any", "a:2 b:3 c:5 d:7", "c"), 1, 5, 2, -2, -2);
    }

    private static void planWithOneTwice() {
        CHECK.part("II: one may be there twice");
        best(Told.inn("1 6 any", "ab:3", "a,b,aa,bb"), 2, 3, 0);
        best(Told.inn("2 6 any", "ab:3", "a,b,aa,bb"), 4, 6, 0, 0);
        best(Told.inn("3 6 any", "ab:3", "a,b,aa,bb"), 4, 6, 0, 0, -2);
        best(Told.inn("3 6 any", "ab:3", "a,b,aa,bb,aaa,bbb"), 6, 9, 0, 0, 0);
        best(Told.inn("3 6 any", "c:1 ab:3", "a,b,aa,bb,c"), 5, 7, 0, 1, 1);
    }

    private static void planNeedsNoLetterMoreOften() {
        CHECK.part("II: that together need no letter more often than there is");
        best(Told.inn("1 6 any", "aa", "a"), 0, 0, -2);
        best(Told.inn("1 6 any", "aa", "a,ab"), 2, 1, 0);
        best(Told.inn("1 6 any", "zzzzzz", "z,za,zb,zc,zd"), 0, 0, -2);
        best(Told.inn("1 6 any", "zzzzzz", "z,za,zb,zc,zd,ze"), 6, 1, 0);
        best(Told.inn("2 6 any", "ab ac:2", "a,b,c"), 2, 2, 1, -2);
        best(Told.inn("2 6 any", "ab ac:2", "a,b,c,aa"), 4, 3, 0, 1);
    }

    private static void planOfGoodWords() {
        CHECK.part("II: of GOOD WORDS");
        best(Told.inn("2 3 any", "ab! abcd c:0", "a,b,c,d"), 1, 0, 2, -2);
        best(Told.inn("2 4 any", "ab! abcd c:0", "a,b,c,d"), 4, 1, 1, -2);
        WordTables x = Told.inn("2 3 any", "ab! abcd c:0", "a,b,c,d");
        x.bar(0, false);
        best(x, 3, 1, 0, 2);
        x.bar(2, true);
        best(x, 2, 1, 0, -2);
    }

    private static void bestIsOfMostSat() {
        CHECK.part("II: BEST: of most SAT");
        best(Told.inn("1 6 any", "a:99 bc:0", "a,b,c"), 2, 0, 1);
        best(Told.inn("2 6 any", "a:99 b:99 bcd:0 ac:0", "a,b,c,d"), 4, 99, 0, 2);
        best(Told.inn("1 6 any", "ab:50 abc:49", "a,b,c"), 3, 49, 1);
    }

    private static void bestThenOfMostWorth() {
        CHECK.part("II: then of most worth");
        best(Told.inn("1 6 any", "ab:4 cd:5", "a,b,c,d"), 2, 5, 1);
        best(Told.inn("2 6 any", "ab:4 cd:5 ac:1 bd:9", "a,b,c,d"), 4, 10, 2, 3);
        best(Told.inn("2 6 any", "ab:4 cd:5 ac:1 bd:7", "a,b,c,d"), 4, 9, 0, 1);
        best(Told.inn("3 6 any", "a:99", "a,aa,aaa"), 3, 297, 0, 0, 0);
    }

    private static void bestThenTheFirstByNumbers() {
        CHECK.part("II: then the first by numbers (rising; at each place a WORD ahead of none)");
        best(Told.inn("1 6 any", "cd:5 ab:5", "a,b,c,d"), 2, 5, 0);
        best(Told.inn("2 6 any", "ab:4 ac:5 bd:3 cd:4", "a,b,c,d"), 4, 8, 0, 3);
        best(Told.inn("2 6 any", "a:1 b:1 c:1", "a,b,c"), 2, 2, 0, 1);
        // Rising, whatever is told first of the letters.
        best(Told.inn("2 6 any", "cd:1 zz:9 ab:1", "a,b,c,d"), 4, 2, 0, 2);
        // a, b, c are ahead of a, bc: at the second place 1 is ahead of 3; but abc, if it is told first, is ahead of all.
        best(Told.inn("3 6 any", "a:0 b:0 c:0 bc:0", "a,b,c"), 3, 0, 0, 1, 2);
        best(Told.inn("3 6 any", "a:0 bc:0 b:0 c:0", "a,b,c"), 3, 0, 0, 1, -2);
        best(Told.inn("3 6 any", "abc:0 a:0 b:0 c:0", "a,b,c"), 3, 0, 0, -2, -2);
        // The same one twice is ahead of a later one.
        best(Told.inn("2 6 any", "a:1 b:1", "a,aa,b,bb"), 2, 2, 0, 0);
    }

    private static void bestOfNone() {
        CHECK.part("II: BEST if no WORD can be made");
        best(Told.inn("1 6 any", "b:9", "a"), 0, 0, -2);
        best(Told.inn("2 6 any", "a:9!", "a"), 0, 0, -2, -2);
        best(Told.inn("3 1 any", "ab:9", "a,b"), 0, 0, -2, -2, -2);
        best(Told.inn("3 6 any", "a:0", "a"), 1, 0, 0, -2, -2);
    }

    private static void bestOfAllEight() {
        CHECK.part("13: SAT of all guests");
        best(Told.inn("3 6 any", "abcdef:1 gh:1 abc:1 def:1", "a,b,c,d,e,f,g,h"), 8, 3, 1, 2, 3);
        best(Told.inn("2 6 any", "abcdef:1 gh:1 abc:1 def:1", "a,b,c,d,e,f,g,h"), 8, 2, 0, 1);
        best(Told.inn("1 6 any", "abcdef:1 gh:1 abc:1 def:1", "a,b,c,d,e,f,g,h"), 6, 1, 0);
    }

    private static void planRefused() {
        CHECK.part("15: NONE: 1 (no such table)");
        for (int tables = 1; tables <= 3; tables++) {
            WordTables x = Told.inn(tables + " 6 any", "a", "a,aa,aaa");
            CHECK.granted(x, "plan of the last table", x.plan(tables - 1), 0);
            for (int i : new int[] {tables, 3, -1, LOW, HIGH}) {
                CHECK.refused(x, "plan(" + i + "), tables " + tables, x.plan(i), 1);
            }
        }
    }

    // ---- II and 16 to 19: richest, fewest, wanted

    private static void richestOfAnyPlan() {
        CHECK.part("16: RICHEST: the most worth of any PLAN");
        CHECK.due("of fewer who sit", Told.inn("1 6 any", "a:99 bc:0", "a,b,c").richest(), 99);
        CHECK.due("of as many tables as there are", Told.inn("3 6 any", "a:99", "a,aa,aaa,aaaa").richest(), 297);
        CHECK.due("of as many letters as there are", Told.inn("3 6 any", "a:99", "a,aa").richest(), 198);
        CHECK.due("of none", Told.inn("3 6 any", "b:99", "a").richest(), 0);
        CHECK.due("of a barred one", Told.inn("1 6 any", "a:99! b:7", "a,b").richest(), 7);
        CHECK.due("of one too long", Told.inn("1 1 any", "ab:99 b:7", "a,b").richest(), 7);
        CHECK.due("of worth 0", Told.inn("1 1 any", "a:0", "a").richest(), 0);
        CHECK.due("shared letters", Told.inn("2 6 any", "ab:5 bc:6 c:2", "a,b,c").richest(), 7);
    }

    private static void lessByActs() {
        CHECK.part("13 to 18: less, when WORDS are barred, and guests renamed");
        WordTables x = Told.inn("2 6 any", "ab:9 a:3 c:50", "a,b,c");
        best(x, 3, 59, 0, 2);
        CHECK.granted(x, "richest", x.richest(), 59);
        CHECK.granted(x, "fewest", x.fewest(), 2);
        x.bar(2, true);
        best(x, 2, 9, 0, -2);
        CHECK.granted(x, "richest, barred", x.richest(), 9);
        CHECK.granted(x, "fewest, barred", x.fewest(), -2);
        x.rename(1, 25);
        best(x, 1, 3, 1, -2);
        CHECK.granted(x, "richest, renamed", x.richest(), 3);
        CHECK.granted(x, "wanted, renamed", x.wanted(), -2);
        x.rename(0, 25);
        best(x, 0, 0, -2, -2);
        CHECK.granted(x, "richest, renamed again", x.richest(), 0);
        Check.tell(x, Told.text("1 6 any", "a:1", "a"));
        CHECK.granted(x, "richest, another INN", x.richest(), 1);
        CHECK.granted(x, "fewest, another INN", x.fewest(), 1);
    }

    private static int fewest(String house, String words, String guests) {
        return Told.inn(house, words, guests).fewest();
    }

    private static void fewestTables() {
        CHECK.part("17: FEWEST: the fewest tables by which a PLAN seats all");
        CHECK.due("one of three", fewest("3 6 any", "abc a b c", "a,b,c"), 1);
        CHECK.due("two of three", fewest("3 6 any", "ab a b c", "a,b,c"), 2);
        CHECK.due("three of three", fewest("3 6 any", "a b c", "a,b,c"), 3);
        CHECK.due("one of one", fewest("1 6 any", "a", "a"), 1);
        CHECK.due("two of two", fewest("2 6 any", "a b", "b,a"), 2);
        CHECK.due("one word twice", fewest("3 6 any", "abcd", "a,aa,b,bb,c,cc,d,dd"), 2);
        CHECK.due("one word thrice", fewest("3 6 any", "aa", "a,aa,ab,ac,ad,ae"), 3);
        // BEST is of three tables, being worth more.
        CHECK.due("whatever it is worth", fewest("3 6 any", "a:99 b:99 c:99 abc:0", "a,b,c"), 1);
    }

    private static void fewestIfThereIsNone() {
        CHECK.part("17: -2 if there is no such PLAN");
        CHECK.due("one table too few", fewest("2 6 any", "a b c", "a,b,c"), -2);
        CHECK.due("a letter of no WORD", fewest("3 6 any", "a b", "a,b,c"), -2);
        CHECK.due("a letter too few", fewest("3 6 any", "abc", "a,b"), -2);
        CHECK.due("a letter left", fewest("3 6 any", "ab", "a,b,aa"), -2);
        CHECK.due("it is barred", fewest("1 6 any", "ab!", "a,b"), -2);
        CHECK.due("it is too long", fewest("1 1 any", "ab", "a,b"), -2);
        CHECK.due("it is as long as there are chairs", fewest("1 2 any", "ab", "a,b"), 1);
    }

    private static void wants(WordTables x, String letters) {
        CHECK.granted(x, "wanted", x.wanted(), letters.length());
        for (int i = 0; i < letters.length(); i++) {
            CHECK.granted(x, "wants(" + i + ")", x.wants(i), letters.charAt(i) - 'a');
        }
        CHECK.refused(x, "wants(" + letters.length() + ")", x.wants(letters.length()), 1);
    }

    private static void wantsNoneCan(WordTables x) {
        CHECK.granted(x, "wanted", x.wanted(), -2);
        CHECK.refused(x, "wants(0)", x.wants(0), 6);
    }

    private static void wantedNone() {
        CHECK.part("18: WANTED: none, as all are sat");
        wants(Told.inn("1 6 any", "a", "a"), "");
        wants(Told.inn("3 6 any", "abcdef gh", "a,b,c,d,e,f,g,h"), "");
        wants(Told.inn("2 6 any", "ab", "a,aa,b,bb"), "");
        wants(Told.inn("2 6 any", "ax a b", "a,b"), "");
    }

    private static void wantedMany() {
        CHECK.part("18: WANTED: as many letters as can be");
        wants(Told.inn("1 2 any", "ab", "a"), "b");
        wants(Told.inn("1 6 any", "fedcba", "c"), "abdef");
        wants(Told.inn("3 6 any", "yyyyya yyyyyb cyyyyy", "a,b,c"), "yyyyyyyyyyyyyyy");
        wants(Told.inn("3 6 any", "abcdef gggggg", "a,g,b,gg"), "cdefgggg");
    }

    private static void wantedIfItCannotBe() {
        CHECK.part("18: -2 if there are none with which it can be");
        wantsNoneCan(Told.inn("3 6 any", "ab", "a,c"));
        wantsNoneCan(Told.inn("1 6 any", "ab ac", "b,c"));
        wantsNoneCan(Told.inn("1 6 any", "ab", "a,b,aa"));
        wantsNoneCan(Told.inn("3 6 any", "aa", "a,aa,ab,ac,ad,ae,af"));
        wantsNoneCan(Told.inn("1 6 any", "ab!", "a"));
        wantsNoneCan(Told.inn("1 1 any", "ab", "a"));
        wants(Told.inn("2 6 any", "ab ac", "b,c"), "aa");
        wants(Told.inn("2 6 any", "ab", "a,b,aa"), "b");
        wants(Told.inn("3 6 any", "aa", "a,aa,ab,ac,ad"), "a");
    }

    private static void wantedTheFewest() {
        CHECK.part("II: the fewest by which all are sat");
        wants(Told.inn("1 6 any", "abcd abc abcde", "a"), "bc");
        wants(Told.inn("2 6 any", "abcd bx ay", "a,b"), "cd");
        wants(Told.inn("2 6 any", "abcde bx ay", "a,b"), "xy");
        wants(Told.inn("1 6 any", "abcde bx ay", "a,b"), "cde");
        wants(Told.inn("3 6 any", "a:99 ab:0 zzz:99", "b"), "a");
    }

    private static void wantedTheFirstByNumbers() {
        CHECK.part("II: of like ones the first by numbers of WORDS");
        wants(Told.inn("1 6 any", "ac ab", "a"), "c");
        wants(Told.inn("1 6 any", "ab:0 ac:99", "a"), "b");
        wants(Told.inn("2 6 any", "az by abxw", "a,b"), "yz");
        wants(Told.inn("2 6 any", "abxw az by", "a,b"), "wx");
        wants(Told.inn("2 6 any", "az abxw by", "a,b"), "yz");
        wants(Told.inn("2 6 any", "by abxw az", "a,b"), "yz");
        wants(Told.inn("2 6 any", "az bv bu", "a,b"), "vz");
        // The same one twice: aab and aab, ahead of aab and abb.
        wants(Told.inn("2 6 any", "aab abb", "a,b,aa,bb"), "aa");
    }

    private static void wantsRising() {
        CHECK.part("19: the i-th of these letters, rising");
        wants(Told.inn("1 6 any", "zybya", "b"), "ayyz");
        wants(Told.inn("2 6 any", "zx ay", "z,a"), "xy");
        wants(Told.inn("1 6 any", "qqq", "q"), "qq");
    }

    private static void wantsRefused() {
        CHECK.part("19: NONE: 1 (i); 6");
        WordTables x = Told.inn("1 6 any", "abc ad!", "a");
        for (int i : new int[] {-1, 2, LOW, HIGH}) {
            CHECK.refused(x, "wants(" + i + ")", x.wants(i), 1);
        }
        x.rename(0, 25);
        for (int i : new int[] {0, 1, HIGH}) {
            CHECK.refused(x, "wants(" + i + "), none can", x.wants(i), 6);
        }
        CHECK.refused(x, "wants(-1), none can", x.wants(-1), 1);
        CHECK.refused(x, "wants(LOW), none can", x.wants(LOW), 1);
        x.rename(0, 3);
        CHECK.refused(x, "wants(0), barred", x.wants(0), 6);
        x.bar(1, false);
        CHECK.granted(x, "wants(0), not any more", x.wants(0), 0);
        CHECK.refused(x, "wants(1)", x.wants(1), 1);
    }

    // ---- 20: gains

    private static void gainsOfEveryLetter() {
        CHECK.part("20: of a letter (0 .. 25)");
        WordTables x = Told.inn("1 6 any", "a az zzzzza bcd:9", "a,b,z,c");
        for (int letter = 0; letter < 26; letter++) {
            CHECK.granted(x, "gains(" + letter + ")", x.gains(letter), letter == 3 ? 1 : 0);
        }
        CHECK.granted(x, "most, as it is", x.most(), 2);
        CHECK.granted(x, "plan(0), as it is", x.plan(0), 1);
        CHECK.due("guests, as they are", x.size(3), 4);
        x = Told.inn("1 6 any", "abcdez", "a,b,c,d,e");
        CHECK.granted(x, "gains(25), of all six", x.gains(25), 6);
        CHECK.granted(x, "gains(0), there already", x.gains(0), 0);
        x = Told.inn("1 6 any", "abcdez", "z,b,c,d,e");
        CHECK.granted(x, "gains(0), of all six", x.gains(0), 6);
        CHECK.granted(x, "gains(25), there already", x.gains(25), 0);
        x = Told.inn("1 6 any", "a b!", "c");
        CHECK.granted(x, "gains(0)", x.gains(0), 1);
        CHECK.granted(x, "gains(1), barred", x.gains(1), 0);
        x.bar(1, false);
        CHECK.granted(x, "gains(1), not any more", x.gains(1), 1);
        x.rename(0, 0);
        CHECK.granted(x, "gains(1), the table is had already", x.gains(1), 0);
    }

    private static void gainsOfANinthGuest() {
        CHECK.part("20: with one guest more than eight");
        WordTables x = Told.inn("3 6 any", "abc def ghi", "a,b,c,d,e,f,g,h");
        CHECK.granted(x, "gains(8)", x.gains(8), 3);
        CHECK.granted(x, "gains(9)", x.gains(9), 0);
        CHECK.granted(x, "most, as it is", x.most(), 6);
        CHECK.due("guests, as they are", x.size(3), 8);
        x = Told.inn("3 6 any", "aaaaaa aaa", "a,b,c,d,e,f,g,h");
        CHECK.granted(x, "gains(0), two of three", x.gains(0), 0);
    }

    private static void gainsRefused() {
        CHECK.part("20: NONE: 1 (no INN); 2");
        WordTables x = Told.inn("1 6 any", "a", "b");
        for (int letter : new int[] {-1, 26, LOW, HIGH}) {
            CHECK.refused(x, "gains(" + letter + ")", x.gains(letter), 2);
        }
        CHECK.granted(x, "gains(0)", x.gains(0), 1);
        x = new WordTables();
        for (int letter : new int[] {-1, 0, 25, 26}) {
            CHECK.refused(x, "gains(" + letter + "), no INN", x.gains(letter), 1);
        }
    }

    // ---- all of them

    private static void noInn() {
        CHECK.part("6 to 20: NONE: 1, without an INN");
        WordTables x = new WordTables();
        // An inn that is refused is none.
        Check.tell(x, "inn tables 1 chairs 1 grows any;word a worth 1");
        CHECK.due("trouble", x.trouble(), 4);
        CHECK.refused(x, "word(0, 0)", x.word(0, 0), 1);
        CHECK.refused(x, "letter(0, 0)", x.letter(0, 0), 1);
        CHECK.refused(x, "grows(0, 0)", x.grows(0, 0), 1);
        CHECK.refused(x, "chain(0)", x.chain(0), 1);
        CHECK.refused(x, "ladder(0, 0)", x.ladder(0, 0), 1);
        CHECK.refused(x, "rung(0, 0, 0)", x.rung(0, 0, 0), 1);
        CHECK.refused(x, "grundy(0)", x.grundy(0), 1);
        CHECK.refused(x, "grundy(-1)", x.grundy(-1), 1);
        CHECK.refused(x, "most", x.most(), 1);
        CHECK.refused(x, "worth", x.worth(), 1);
        CHECK.refused(x, "plan(0)", x.plan(0), 1);
        CHECK.refused(x, "richest", x.richest(), 1);
        CHECK.refused(x, "fewest", x.fewest(), 1);
        CHECK.refused(x, "wanted", x.wanted(), 1);
        CHECK.refused(x, "wants(0)", x.wants(0), 1);
        CHECK.refused(x, "gains(0)", x.gains(0), 1);
    }

    /** All at once: who has come, who stands, and what the tables are makes no difference. */
    private static void theNightDoesNotMatter() {
        CHECK.part("13 to 20: of all guests, whoever has come");
        WordTables x = Told.inn("2 6 any", "a:3 ab:2 c:1 d:1", "a,b,c");
        for (int came = 0; came <= 3; came++) {
            best(x, 3, 3, 1, 2);
            CHECK.granted(x, "richest", x.richest(), 4);
            CHECK.granted(x, "fewest", x.fewest(), 2);
            CHECK.granted(x, "wanted", x.wanted(), 0);
            CHECK.granted(x, "gains(0)", x.gains(0), 0);
            CHECK.due("came", x.size(6), came);
            x.stand();
        }
    }
}
