/** Terms I and promises 1 to 5, sentence by sentence: the last text that is still allowed, and the first that isn't. */
public final class TextEdgesTest {
    private static final Check CHECK = new Check();
    private static final String INN = "inn tables 1 chairs 6 grows any";
    private static final String REST = ";word a worth 1;guest al";
    private static final String SOUND = INN + REST;

    public static void main(String[] args) {
        aNewObjectHasNoInn();
        fiveHundredAndTwelveCalls();
        theTapeHas900Bytes();
        aTextOf900Bytes();
        theHighestByteIsTheFirst();
        noneComesIfThereWouldBeMore();
        theFirstBytesAreTheInn();
        aTokenEndsWithTheFirstBytes();
        refusedByTwoTheTapeStays();
        refusedByFourTheInnStays();
        aNightOfHostNoughtNoMarks();
        nothingOfTheOldInnIsLeft();
        theFaultOfTheLatest();
        itsPlace();
        blanksPartTokens();
        everyByte();
        wordsOfOneToEightLetters();
        wholesOfOneToThreeDigits();
        singleOnes();
        linesPartedBySemicolons();
        tables();
        chairs();
        grows();
        aWordOfSixLetters();
        worths();
        barredPerhaps();
        twentyFourWords();
        namesOfGuests();
        eightGuestsInAll();
        likelyOfOneLetter();
        likelyWeights();
        sixLikely();
        seenToldAhead();
        sixSeen();
        formOfEveryLine();
        everyLetterOfAKey();
        untold();
        toldAgain();
        outOfBounds();
        many();
        lacks();
        ofOnePlaceTheLeastNumber();
        theFirstFromTheLeft();
        CHECK.end();
    }

    private static void sound(String text, int guests) {
        WordTables x = new WordTables();
        CHECK.granted(x, text, Check.tell(x, text), guests);
        CHECK.due(text + ": fault", x.fault(), 0);
        CHECK.due(text + ": where", x.where(), -1);
    }

    private static void fault(String text, int number, int place) {
        WordTables x = new WordTables();
        CHECK.refused(x, text, Check.tell(x, text), 4);
        CHECK.due(text + ": fault", x.fault(), number);
        CHECK.due(text + ": where", x.where(), place);
    }

    /** The fault at the last token, or (of a text that could go on) at the end. */
    private static void faultBehind(String ahead, String token, int number) {
        fault(ahead + token, number, ahead.length());
    }

    private static void lacksAtTheEnd(String text) {
        fault(text, 6, text.length());
    }

    private static String words(int count) {
        StringBuilder lines = new StringBuilder();
        for (int i = 0; i < count; i++) {
            lines.append(i == 0 ? "" : ";").append("word ").append((char) ('a' + i)).append(" worth ").append(i);
        }
        return lines.toString();
    }

    private static String guests(int count) {
        StringBuilder line = new StringBuilder("guest ");
        for (int i = 0; i < count; i++) {
            line.append(i == 0 ? "" : ",").append((char) ('a' + i));
        }
        return line.toString();
    }

    private static String likelies(int count) {
        StringBuilder lines = new StringBuilder();
        for (int i = 0; i < count; i++) {
            lines.append(i == 0 ? "" : ";").append("likely ").append((char) ('a' + i)).append(" 1");
        }
        return lines.toString();
    }

    private static String blanks(int count) {
        return " ".repeat(count);
    }

    private static void aNewObjectHasNoInn() {
        CHECK.part("1: no INN");
        WordTables x = new WordTables();
        for (int what = 0; what <= 9; what++) {
            CHECK.due("size(" + what + ")", x.size(what), 0);
        }
        CHECK.due("trouble", x.trouble(), 0);
        CHECK.due("fault", x.fault(), 0);
        CHECK.due("where", x.where(), -1);
        CHECK.refused(x, "word(0, 0)", x.word(0, 0), 1);
        CHECK.refused(x, "guest(0)", x.guest(0), 1);
        CHECK.refused(x, "table(0)", x.table(0), 1);
        CHECK.refused(x, "standing", x.standing(), 1);
        CHECK.refused(x, "most", x.most(), 1);
        CHECK.ledNone(x, 0);
        // Objects have nothing in common.
        Check.tell(x, SOUND);
        CHECK.due("another object", new WordTables().size(3), 0);
    }

    private static void fiveHundredAndTwelveCalls() {
        CHECK.part("what it is: at most 512 calls");
        WordTables x = new WordTables();
        Check.tell(x, INN + ";word a worth 1;word ab worth 5;guest al,bo");
        int calls = 1 + (INN.length() + 41 + 19) / 20;
        for (; calls < 508; calls += 2) {
            x.bar(1, calls % 4 < 2);
            x.most();
        }
        x.bar(1, true);
        x.bar(1, false);
        CHECK.due("most, not later than by the 511th call", x.most(), 2);
        CHECK.due("trouble, not later than by the 512th", x.trouble(), 0);
    }

    private static void theTapeHas900Bytes() {
        CHECK.part("2: how many it has");
        WordTables x = new WordTables();
        for (int i = 1; i <= 45; i++) {
            CHECK.due("feed " + i, x.feed(0, 0, 0, 0, 0), 20 * i);
            CHECK.due("size(9)", x.size(9), 20 * i);
        }
        CHECK.due("the 46th feed", x.feed(0, 0, 0, 0, 0), -1);
        CHECK.due("the 47th feed", x.feed(0, 0, 0, 0, 0), -1);
        CHECK.due("size(9)", x.size(9), 900);
    }

    private static void aTextOf900Bytes() {
        CHECK.part("I: THE TAPE has 900 bytes");
        String ahead = blanks(900 - SOUND.length());
        sound(ahead + SOUND, 1);
        sound(SOUND + ahead, 1);
        fault(SOUND + ahead.substring(1) + "!", 1, 899);
        fault(SOUND + ahead.substring(1) + ";", 1, 900);
        fault(SOUND + ahead.substring(1) + "a", 1, 899);
        // What the tape has of the text before is no part of this one.
        WordTables x = new WordTables();
        Check.tell(x, blanks(899) + "!");
        CHECK.granted(x, "behind a long one", Check.tell(x, SOUND), 1);
        CHECK.granted(x, "full again", Check.tell(x, SOUND + ahead), 1);
    }

    private static void theHighestByteIsTheFirst() {
        CHECK.part("2: of each number the highest first");
        for (int p = 0; p < 20; p++) {
            fault(blanks(p) + "!" + blanks(19 - p), 1, p);
            fault(blanks(p) + (char) 255 + blanks(19 - p), 1, p);
            fault(blanks(20 + p) + "!", 1, 20 + p);
        }
        WordTables x = new WordTables();
        x.feed('w' << 24 | 'o' << 16 | 'r' << 8 | 'd', ' ' << 24 | 'a' << 16 | ' ' << 8 | 'w', 'o' << 24 | 'r' << 16 | 't' << 8 | 'h',
            ' ' << 24 | '1' << 16 | '0' << 8 | '0', 0);
        CHECK.refused(x, "inn(16)", x.inn(16), 4);
        CHECK.due("fault", x.fault(), 4);
        CHECK.due("where", x.where(), 13);
    }

    private static void noneComesIfThereWouldBeMore() {
        CHECK.part("2: NONE, and none comes");
        WordTables x = new WordTables();
        Check.feed(x, SOUND + blanks(900 - SOUND.length()));
        CHECK.due("feed", x.feed(-1, -1, -1, -1, -1), -1);
        CHECK.due("trouble", x.trouble(), 0);
        CHECK.refused(x, "inn(901)", x.inn(901), 2);
        CHECK.due("feed", x.feed(-1, -1, -1, -1, -1), -1);
        CHECK.due("it has no number, so it leaves trouble", x.trouble(), 2);
        CHECK.granted(x, "inn(900)", x.inn(900), 1);
        CHECK.due("there is room again", x.feed(0, 0, 0, 0, 0), 20);
    }

    private static void theFirstBytesAreTheInn() {
        CHECK.part("3: the first n bytes of THE TAPE");
        WordTables x = new WordTables();
        Check.feed(x, SOUND + ",bo,cy !");
        CHECK.granted(x, "all but what is behind cy", x.inn(SOUND.length() + 6), 3);
        CHECK.due("it is empty then", x.size(9), 0);
        x = new WordTables();
        Check.feed(x, SOUND + ",bo");
        CHECK.granted(x, "a name cut off", x.inn(SOUND.length() - 1), 1);
        x = new WordTables();
        Check.feed(x, SOUND);
        CHECK.refused(x, "none of it", x.inn(0), 4);
        CHECK.due("fault", x.fault(), 1);
        CHECK.due("where", x.where(), 0);
        CHECK.due("it is empty then", x.size(9), 0);
        x = new WordTables();
        CHECK.refused(x, "inn(0), nothing being fed", x.inn(0), 4);
        // Two texts fed one behind the other are one.
        x = new WordTables();
        Check.feed(x, INN);
        int fed = x.size(9);
        Check.feed(x, REST);
        CHECK.granted(x, "both", x.inn(fed + REST.length()), 1);
    }

    private static void aTokenEndsWithTheFirstBytes() {
        CHECK.part("3: the first n bytes: what lies behind them is no part of the last TOKEN");
        String worth = INN + ";guest al;word a worth 9";
        WordTables x = new WordTables();
        Check.feed(x, worth + "9");
        CHECK.granted(x, "worth 9, a digit behind it", x.inn(worth.length()), 1);
        CHECK.due("worth", x.word(0, 1), 9);
        Check.feed(x, worth + "999");
        CHECK.granted(x, "worth 9, three digits behind it", x.inn(worth.length()), 1);
        CHECK.due("worth", x.word(0, 1), 9);
        String seen = SOUND + ";word ab worth 1;seen a";
        x = new WordTables();
        Check.feed(x, seen + "b");
        CHECK.granted(x, "seen a, a letter behind it", x.inn(seen.length()), 1);
        CHECK.due("ways", x.ways(), 1);
        Check.feed(x, seen + "bcdefghij");
        CHECK.granted(x, "seen a, nine letters behind it", x.inn(seen.length()), 1);
        String barred = INN + ";guest al;word a worth 1 barred";
        x = new WordTables();
        Check.feed(x, barred + "x");
        CHECK.granted(x, "barred, a letter behind it", x.inn(barred.length()), 1);
        CHECK.due("barred", x.word(0, 2), 1);
        // Of a text told before, too: the tape was empty, but its bytes lay there.
        x = new WordTables();
        Check.tell(x, worth.substring(0, worth.length() - 1) + "99");
        CHECK.due("worth", x.word(0, 1), 99);
        Check.feed(x, worth);
        CHECK.granted(x, "the same again, one byte less", x.inn(worth.length()), 1);
        CHECK.due("worth", x.word(0, 1), 9);
    }

    private static void refusedByTwoTheTapeStays() {
        CHECK.part("3: 2 (THE TAPE stays)");
        WordTables x = new WordTables();
        Check.feed(x, SOUND);
        int fed = x.size(9);
        for (int n : new int[] {-1, fed + 1, 901, Integer.MIN_VALUE, Integer.MAX_VALUE}) {
            CHECK.refused(x, "inn(" + n + ")", x.inn(n), 2);
            CHECK.due("the tape stays", x.size(9), fed);
            CHECK.due("no inn", x.size(0), 0);
        }
        CHECK.granted(x, "inn of all", x.inn(fed), 1);
        CHECK.refused(x, "inn(1), the tape being empty", x.inn(1), 2);
        CHECK.changesNothing("inn(5)", TextEdgesTest::aBusyNight, 2, y -> y.inn(5));
        CHECK.changesNothing("inn(-1)", TextEdgesTest::aBusyNight, 2, y -> y.inn(-1));
    }

    private static void aBusyNight(WordTables x) {
        Check.tell(x, "inn tables 2 chairs 3 grows any;word a worth 1;word ab worth 2;word b worth 3 barred;guest al,bo,cy;likely b 2;"
            + "likely a 3;seen a,ab");
        x.mark();
        x.night(2);
        x.come(1);
        x.mark();
        x.stand();
    }

    private static void refusedByFourTheInnStays() {
        CHECK.part("3: 4 (the INN stays)");
        String[] faulty = {"", "!", "inn tables 3 chairs 1 grows back;word z worth 1;seen y", "guest al,al", "inn tables 9", guests(9),
            "inn tables 3 chairs 1 grows back;word z worth 1 barred;likely z 9;seen z"};
        for (int i = 0; i < faulty.length; i++) {
            String text = faulty[i];
            CHECK.changesNothing("inn of " + text, TextEdgesTest::aBusyNight, 4, y -> Check.tell(y, text));
        }
        WordTables x = new WordTables();
        CHECK.refused(x, "no inn", Check.tell(x, INN), 4);
        CHECK.due("there is still none", x.size(0), 0);
        CHECK.refused(x, "most", x.most(), 1);
        CHECK.denied(x, "night(0)", x.night(0), 1);
    }

    private static void aNightOfHostNoughtNoMarks() {
        CHECK.part("3: a NIGHT of HOST 0, no MARKS");
        WordTables x = new WordTables();
        aBusyNight(x);
        Check.tell(x, SOUND);
        CHECK.due("who has come", x.size(6), 0);
        CHECK.due("the host", x.size(7), 0);
        CHECK.due("marks", x.size(8), 0);
        CHECK.granted(x, "standing", x.standing(), 0);
        CHECK.granted(x, "table(0)", x.table(0), -2);
        CHECK.denied(x, "back(0)", x.back(0), 1);
        CHECK.granted(x, "mark", x.mark(), 0);
        // The same inn told again begins anew, too.
        x.come(1);
        Check.tell(x, SOUND);
        CHECK.due("who has come", x.size(6), 0);
        CHECK.due("marks", x.size(8), 0);
    }

    private static void nothingOfTheOldInnIsLeft() {
        CHECK.part("3: the INN from now on");
        WordTables x = new WordTables();
        aBusyNight(x);
        x.most();
        x.able();
        x.ever();
        x.wanted();
        x.gains(1);
        x.hope(4, true);
        String text = "inn tables 1 chairs 1 grows back;word b worth 7;word a worth 4;word ab worth 9;guest bo;likely b 1";
        CHECK.granted(x, "inn", Check.tell(x, text), 1);
        String alone = Look.atInn(Check.inn(text));
        CHECK.due("gains(1)", x.gains(1), 0);
        CHECK.due("hope(1, false)", x.hope(1, false), 1);
        CHECK.due("hope(1, true)", x.hope(1, true), 1);
        CHECK.due("word(0, 2)", x.word(0, 2), 0);
        CHECK.due("chain(1)", x.chain(1), 0);
        CHECK.due("ladder(0, 1)", x.ladder(0, 1), -2);
        CHECK.refused(x, "wrong", x.wrong(), 6);
        CHECK.refused(x, "guest(1)", x.guest(1), 1);
        CHECK.due("all", Look.atInn(x), alone);
        // Words that could grow, at the numbers of some that can't: what was known of them is nothing to the new ones.
        Check.tell(x, Told.text("1 6 back", "abcdef abcde abcd abc ab a", "al"));
        CHECK.due("grundy(-1)", x.grundy(-1), 0);
        CHECK.due("chain(5)", x.chain(5), 5);
        Check.tell(x, Told.text("1 6 back", "a ab abc abcd abcde abcdef", "al"));
        CHECK.due("grundy(-1), the other way round", x.grundy(-1), 0);
        for (int w = 0; w < 6; w++) {
            CHECK.due("grundy(" + w + ")", x.grundy(w), (5 - w) % 2);
            CHECK.due("chain(" + w + ")", x.chain(w), 5 - w);
            CHECK.due("rises(" + w + ")", x.rises(w), 1);
        }
    }

    private static void theFaultOfTheLatest() {
        CHECK.part("4");
        WordTables x = new WordTables();
        x.inn(1);
        CHECK.due("refused by 2 alone", x.fault(), 0);
        Check.tell(x, "guest al,al");
        CHECK.due("told again", x.fault(), 3);
        x.inn(1);
        CHECK.due("the latest not refused by 2", x.fault(), 3);
        x.most();
        CHECK.due("behind another call", x.fault(), 3);
        Check.tell(x, "seen a");
        CHECK.due("a later one", x.fault(), 2);
        Check.tell(x, SOUND);
        CHECK.due("without one", x.fault(), 0);
        x.inn(1);
        CHECK.due("without one, refused by 2 behind it", x.fault(), 0);
    }

    private static void itsPlace() {
        CHECK.part("5");
        WordTables x = new WordTables();
        x.inn(1);
        CHECK.due("refused by 2", x.where(), -1);
        Check.tell(x, "guest al,al");
        CHECK.due("refused by 4", x.where(), 9);
        CHECK.due("asked again", x.where(), 9);
        x.feed(0, 0, 0, 0, 0);
        x.size(0);
        x.fault();
        x.trouble();
        CHECK.ledNone(x, 0);
        CHECK.due("behind calls that can't be refused by a number", x.where(), 9);
        x.inn(21);
        CHECK.due("behind one refused by 2", x.where(), -1);
        CHECK.due("the fault is still told", x.fault(), 3);
        Check.tell(x, "x");
        x.standing();
        CHECK.due("behind one refused by 1", x.where(), -1);
        Check.tell(x, SOUND);
        CHECK.due("behind one that wasn't refused", x.where(), -1);
        Check.tell(x, "!");
        CHECK.due("at the first place", x.where(), 0);
        x.standing();
        CHECK.due("behind a call that wasn't refused", x.where(), -1);
    }

    private static void blanksPartTokens() {
        CHECK.part("I: blanks part TOKENS and mean nothing else");
        sound("   " + SOUND, 1);
        sound(SOUND + "   ", 1);
        sound("inn   tables  1   chairs   6 grows    any  ;  word  a  worth  1  ;  guest   al   ,   bo  ", 2);
        sound("inn tables1chairs6grows any;word a worth1barred;guest al,bo;likely a1;seen a", 2);
        fault("i nn tables 1", 1, 0);
        fault("inntables 1", 1, 0);
        fault("word a worth 1 2", 1, 15);
        // 1 and 2 apart are no 12; al and bo together are one name.
        sound(INN + ";word a worth 12;guest albo", 1);
        fault(INN + ";word a worth 1 2;guest al", 1, INN.length() + 16);
        for (char sign : new char[] {'\t', '\n', '\r', '\f', 0, 31, 33, 160}) {
            fault("inn" + sign + "tables 1", 1, 3);
        }
    }

    private static void everyByte() {
        CHECK.part("I: TOKENS");
        for (int sign = 0; sign < 256; sign++) {
            String text = "guest a" + (char) sign + "b";
            if (sign >= 'a' && sign <= 'z' || sign == ',') {
                lacksAtTheEnd(text);
            } else if (sign == ' ' || sign == ';') {
                fault(text, 1, 8);
            } else {
                fault(text, 1, 7);
            }
            String number = "likely a 1" + (char) sign;
            if (sign == ' ') {
                lacksAtTheEnd(number);
            } else if (sign >= '0' && sign <= '9') {
                fault(number, 4, 9);
            } else {
                fault(number, 1, sign == ';' ? 11 : 10);
            }
            inPlaceOfAWhole((char) sign);
        }
    }

    private static void inPlaceOfAWhole(char sign) {
        boolean digit = sign >= '0' && sign <= '9';
        String worth = "guest al;" + INN + ";word a worth ";
        if (digit) {
            sound(worth + sign, 1);
        } else {
            fault(worth + sign, 1, worth.length() + (sign == ' ' ? 1 : 0));
            fault("inn tables " + sign + " chairs 1", 1, 11 + (sign == ' ' ? 2 : 0));
        }
    }

    private static void wordsOfOneToEightLetters() {
        CHECK.part("I: WORDS of 1 to 8 small letters that stand together");
        sound(SOUND + ",a,z,bb,abcdefgh,zzzzzzzz", 6);
        faultBehind(SOUND + ",", "abcdefghi", 1);
        faultBehind(SOUND + ",", "zzzzzzzzzzzzzzzzz", 1);
        faultBehind("", "abcdefghi", 1);
        faultBehind("word ", "abcdefghi", 1);
        faultBehind("seen ", "abcdefghi", 1);
        faultBehind("likely ", "abcdefghi", 1);
        faultBehind("guest abcdefgh", "I", 1);
    }

    private static void wholesOfOneToThreeDigits() {
        CHECK.part("I: WHOLES of 1 to 3 digits that do");
        sound(INN + ";word a worth 0;word b worth 00;word c worth 000;word d worth 099;word e worth 09;guest al", 1);
        WordTables x = Check.inn("inn tables 002 chairs 03 grows any;word a worth 010;guest al");
        CHECK.due("tables", x.size(0), 2);
        CHECK.due("chairs", x.size(1), 3);
        CHECK.due("worth, by tens", x.word(0, 1), 10);
        faultBehind("word a worth ", "0000", 1);
        faultBehind("word a worth ", "0001", 1);
        faultBehind("word a worth ", "1000", 1);
        faultBehind("word a worth ", "99999999999999999999", 1);
        faultBehind("inn tables ", "0001", 1);
        faultBehind("likely a ", "0001", 1);
        faultBehind("word a worth ", "-1", 1);
        faultBehind("word a worth ", "+1", 1);
    }

    private static void singleOnes() {
        CHECK.part("I: single ones of ; ,");
        faultBehind("guest al,", ",bo", 1);
        faultBehind(SOUND + ";", ";", 1);
        faultBehind("guest al", ".", 1);
        faultBehind("guest al", ":", 1);
    }

    private static void linesPartedBySemicolons() {
        CHECK.part("I: LINE {; LINE}");
        sound(SOUND, 1);
        sound("guest al;word a worth 1;" + INN, 1);
        sound("likely a 1;guest al;word a worth 1;seen a;likely b 1;guest bo;word b worth 1;" + INN, 2);
        fault("", 1, 0);
        fault("  ", 1, 2);
        faultBehind("", ";" + SOUND, 1);
        faultBehind(SOUND + ";", "", 1);
        faultBehind(SOUND + ";  ", "", 1);
        faultBehind(SOUND + " ", "word b worth 1", 1);
        faultBehind("", "1", 1);
        faultBehind("", ",", 1);
        faultBehind("", "inns", 1);
        faultBehind("", "words", 1);
        faultBehind("", "guests", 1);
        faultBehind("", "in", 1);
    }

    private static void tables() {
        CHECK.part("I: tables 1 .. 3");
        for (int tables = 1; tables <= 3; tables++) {
            WordTables x = Check.inn("inn tables " + tables + " chairs 1 grows any" + REST);
            CHECK.due("size(0)", x.size(0), tables);
            CHECK.granted(x, "the last table", x.table(tables - 1), -2);
            CHECK.refused(x, "behind it", x.table(tables), 1);
        }
        for (String wrong : new String[] {"0", "00", "4", "10", "999"}) {
            fault("inn tables " + wrong + " chairs 1 grows any" + REST, 4, 11);
        }
    }

    private static void chairs() {
        CHECK.part("I: chairs 1 .. 6");
        for (int chairs = 1; chairs <= 6; chairs++) {
            CHECK.due("size(1)", Check.inn("inn tables 1 chairs " + chairs + " grows any" + REST).size(1), chairs);
        }
        for (String wrong : new String[] {"0", "000", "7", "16", "999"}) {
            fault("inn tables 3 chairs " + wrong + " grows any" + REST, 4, 20);
        }
    }

    private static void grows() {
        CHECK.part("I: GROWS: any, ends, or back");
        for (String manner : new String[] {"any", "ends", "back"}) {
            sound("inn tables 1 chairs 1 grows " + manner + REST, 1);
        }
        for (String wrong : new String[] {"an", "anyy", "end", "endss", "bac", "backs", "inn", "1", ";", ","}) {
            fault("inn tables 1 chairs 1 grows " + wrong + REST, 1, 28);
        }
    }

    private static void aWordOfSixLetters() {
        CHECK.part("I: a word of 6 letters at most");
        WordTables x = Check.inn(INN + ";word abcdef worth 1;word z worth 2;guest al");
        CHECK.due("six letters", x.word(0, 0), 6);
        CHECK.due("one letter", x.word(1, 0), 1);
        faultBehind("word ", "abcdefg", 4);
        faultBehind("word ", "abcdefgh", 4);
        // As many as 6 may be told with fewer chairs.
        sound("inn tables 1 chairs 1 grows any;word abcdef worth 1;guest al", 1);
    }

    private static void worths() {
        CHECK.part("I: worth 0 .. 99");
        WordTables x = Check.inn(INN + ";word a worth 0;word b worth 99;guest al");
        CHECK.due("worth 0", x.word(0, 1), 0);
        CHECK.due("worth 99", x.word(1, 1), 99);
        faultBehind("word a worth ", "100", 4);
        faultBehind("word a worth ", "999", 4);
    }

    private static void barredPerhaps() {
        CHECK.part("I: behind it perhaps barred");
        WordTables x = Check.inn(INN + ";word a worth 0 barred;word b worth 1;word barred worth 2 barred;guest al");
        CHECK.due("barred", x.word(0, 2), 1);
        CHECK.due("not barred", x.word(1, 2), 0);
        CHECK.due("the word barred, barred", x.word(2, 2), 1);
        faultBehind("word a worth 1 ", "bar", 1);
        faultBehind("word a worth 1 ", "barredd", 1);
        faultBehind("word a worth 1 barred ", "barred", 1);
        faultBehind("word a ", "barred worth 1", 1);
        faultBehind("guest al ", "barred", 1);
    }

    private static void twentyFourWords() {
        CHECK.part("I: up to 24 words");
        WordTables x = Check.inn(words(24) + ";guest al;" + INN);
        CHECK.due("size(2)", x.size(2), 24);
        CHECK.granted(x, "the last one's worth", x.word(23, 1), 23);
        CHECK.granted(x, "the last one's letter", x.letter(23, 0), 23);
        faultBehind(words(24) + ";", "word y worth 1", 5);
        faultBehind(words(24) + ";guest al;seen x;", "word", 5);
        faultBehind(words(24) + ";", "word a worth 1", 5);
        faultBehind(words(24) + ";", "word 7", 5);
        faultBehind(words(23) + ";word ", "a worth 1", 3);
        lacksAtTheEnd(words(24));
    }

    private static void namesOfGuests() {
        CHECK.part("I: their names, in the order in which they come");
        WordTables x = Check.inn(INN + ";guest zoe,al;word a worth 1;guest bo;guest abe,aa");
        int[] letters = {25, 0, 1, 0, 0};
        for (int g = 0; g < letters.length; g++) {
            CHECK.granted(x, "guest(" + g + ")", x.guest(g), letters[g]);
        }
        CHECK.refused(x, "guest(5)", x.guest(5), 1);
        // Names may be those of words, and of what begins lines.
        sound(INN + ";word a worth 1;guest a,inn,word,guest,likely,seen,barred,worth", 8);
    }

    private static void eightGuestsInAll() {
        CHECK.part("I: up to 8 guests in all");
        sound(INN + ";word a worth 1;" + guests(8), 8);
        sound(INN + ";word a worth 1;guest a;guest b;guest c;guest d;guest e;guest f;guest g;guest h", 8);
        sound(INN + ";word a worth 1;guest z;guest a,b,c,d,e,f,g", 8);
        faultBehind(guests(8) + ",", "i", 5);
        faultBehind(guests(8) + ";guest ", "i", 5);
        faultBehind(guests(8) + ";" + SOUND.replace("al", ""), "al", 5);
        faultBehind("guest z;" + guests(7) + ",", "h", 5);
        lacksAtTheEnd(guests(8));
        faultBehind(guests(8) + ",", "", 1);
        faultBehind(guests(8) + ";guest ", "1", 1);
    }

    private static void likelyOfOneLetter() {
        CHECK.part("I: likely WORD of one letter");
        sound(SOUND + ";likely a 1;likely z 1", 1);
        faultBehind("likely ", "ab", 4);
        faultBehind("likely ", "aa", 4);
        faultBehind("likely ", "abcdefgh", 4);
        faultBehind("likely ", "1", 1);
    }

    private static void likelyWeights() {
        CHECK.part("I: likely 1 .. 9");
        WordTables x = Check.inn(SOUND + ";likely a 1;likely z 9");
        CHECK.due("one of ten", x.hope(1, false), 1);
        CHECK.due("of ten", x.hope(1, true), 10);
        faultBehind("likely a ", "0", 4);
        faultBehind("likely a ", "000", 4);
        faultBehind("likely a ", "10", 4);
        faultBehind("likely a ", "999", 4);
    }

    private static void sixLikely() {
        CHECK.part("I: up to 6 likely ones");
        CHECK.due("size(4)", Check.inn(likelies(6) + ";" + SOUND).size(4), 6);
        faultBehind(likelies(6) + ";", "likely g 1", 5);
        faultBehind(likelies(6) + ";" + SOUND + ";", "likely", 5);
        faultBehind(likelies(6) + ";", "likely a 1", 5);
        faultBehind(likelies(5) + ";likely ", "a 1", 3);
    }

    private static void seenToldAhead() {
        CHECK.part("I: seen: words told ahead");
        sound(SOUND + ";seen a", 1);
        sound("word a worth 1 barred;seen a;guest al;" + INN, 1);
        sound("inn tables 1 chairs 1 grows any;word ab worth 1;guest al;seen ab", 1);
        faultBehind("seen ", "a;word a worth 1", 2);
        faultBehind("word a worth 1;seen a,", "b;word b worth 1", 2);
        // Guests and what begins a line are no words.
        faultBehind("word a worth 1;guest b;seen ", "b", 2);
        faultBehind("word a worth 1;seen ", "word", 2);
    }

    private static void sixSeen() {
        CHECK.part("I: up to 6 seen");
        WordTables x = Check.inn(SOUND + ";seen a,a,a,a,a,a");
        CHECK.due("size(5)", x.size(5), 6);
        faultBehind("word a worth 1;seen a,a,a,a,a,a,", "a", 5);
        faultBehind("word a worth 1;seen a,a,a,a,a,a,", "a,b", 5);
        faultBehind("word a worth 1;seen a,a,a,a,a,a,", "", 1);
        lacksAtTheEnd("word a worth 1;seen a,a,a,a,a,a");
    }

    private static void formOfEveryLine() {
        CHECK.part("I: 1 FORM: TOKEN with which no INN goes on (the end: its place)");
        // Behind each beginning, what it goes on with: a WORD, a WHOLE (1), signs, the end (.); k is one certain WORD.
        String[][] goesOn = {{"", "k"}, {"inn ", "k"}, {"inn tables ", "1"}, {"inn tables 1 ", "k"}, {"inn tables 1 chairs ", "1"},
            {"inn tables 1 chairs 6 ", "k"}, {"inn tables 1 chairs 6 grows ", "k"}, {"guest al;word a worth 1;" + INN + " ", ";."},
            {SOUND + ";", "k"}, {SOUND + ";word ", "w"}, {SOUND + ";word b ", "k"}, {SOUND + ";word b worth ", "1"},
            {SOUND + ";word b worth 1 ", "k;."}, {SOUND + ";word b worth 1 barred ", ";."}, {SOUND + ";guest ", "w"},
            {SOUND + ";guest bo ", ",;."}, {SOUND + ";guest bo,", "w"}, {SOUND + ";likely ", "w"}, {SOUND + ";likely b ", "1"},
            {SOUND + ";likely b 1 ", ";."}, {SOUND + ";seen ", "w"}, {SOUND + ";seen a ", ",;."}, {SOUND + ";seen a,", "w"}};
        for (String[] here : goesOn) {
            for (String token : new String[] {";", ",", "1", "other", ""}) {
                String kind = token.isEmpty() ? "." : token.equals("other") ? "w" : token;
                if (!here[1].contains(kind)) {
                    faultBehind(here[0], token, 1);
                }
            }
            if (here[1].contains(".")) {
                sound(here[0], here[0].contains("bo") ? 2 : 1);
            }
        }
    }

    private static void everyLetterOfAKey() {
        CHECK.part("I: 1 FORM: each letter of a certain WORD");
        String[][] keys = {{"", "inn"}, {"", "word"}, {"", "guest"}, {"", "likely"}, {"", "seen"}, {"inn ", "tables"},
            {"inn tables 1 ", "chairs"}, {"inn tables 1 chairs 1 ", "grows"}, {"inn tables 1 chairs 1 grows ", "any"},
            {"inn tables 1 chairs 1 grows ", "ends"}, {"inn tables 1 chairs 1 grows ", "back"}, {"word a ", "worth"},
            {"word a worth 1 ", "barred"}};
        for (String[] key : keys) {
            for (int i = 0; i < key[1].length(); i++) {
                char[] other = key[1].toCharArray();
                other[i] = other[i] == 'q' ? 'x' : 'q';
                faultBehind(key[0], new String(other), 1);
            }
            faultBehind(key[0], key[1].substring(1), 1);
            faultBehind(key[0], key[1].substring(0, key[1].length() - 1), 1);
            faultBehind(key[0], key[1] + "s", 1);
        }
    }

    private static void untold() {
        CHECK.part("I: 2 a WORD seen that isn't told as a word; at it");
        faultBehind("seen ", "a", 2);
        faultBehind("word ab worth 1;seen ", "a", 2);
        faultBehind("word a worth 1;seen ", "ab", 2);
        faultBehind("word ab worth 1;seen ", "ba", 2);
        faultBehind("word ab worth 1;seen ab,ab,", "ac,ab", 2);
        faultBehind("word a worth 1;seen ", "abcdefgh", 2);
        faultBehind("word a worth 1;seen ", "any;", 2);
    }

    private static void toldAgain() {
        CHECK.part("I: 3 told again");
        faultBehind("word a worth 1;word ", "a worth 1", 3);
        faultBehind("word a worth 1 barred;word b worth 2;word ", "a worth 2", 3);
        faultBehind("word abcdef worth 1;guest al;word ", "abcdef", 3);
        sound(INN + ";word ab worth 1;word ba worth 1;word abb worth 1;word a worth 1;guest a", 1);
        faultBehind("guest al,", "al", 3);
        faultBehind("guest al,bo;" + INN + ";guest cy,", "bo", 3);
        faultBehind("guest al;guest ", "al,bo", 3);
        sound(SOUND + ",ala,la,a,all", 5);
        faultBehind("likely a 1;likely ", "a 1", 3);
        faultBehind("likely a 1;likely b 2;guest al;likely ", "a 9", 3);
        CHECK.part("I: 3 a second inn, seen; at that WORD");
        faultBehind(INN + ";", INN, 3);
        faultBehind(SOUND + ";", "inn", 3);
        faultBehind(SOUND + ";", "inn tables 9", 3);
        faultBehind(SOUND + ";seen a;", "seen a", 3);
        faultBehind(SOUND + ";seen a,a;guest bo;", "seen", 3);
        faultBehind(SOUND + ";seen a;", "seen b", 3);
        // Each text for itself: none of it is told again in the next one.
        WordTables x = new WordTables();
        String all = SOUND + ";likely a 1;seen a";
        CHECK.granted(x, "all", Check.tell(x, all), 1);
        CHECK.granted(x, "all, in the next text", Check.tell(x, all), 1);
        Check.tell(x, all + "!");
        CHECK.granted(x, "all, behind one with a fault", Check.tell(x, all), 1);
    }

    private static void outOfBounds() {
        CHECK.part("I: 4 a WHOLE out of bounds, a WORD with more letters than may be; at it");
        faultBehind("inn tables ", "4 chairs 9 grows none", 4);
        faultBehind("inn tables 3 chairs ", "7 grows none", 4);
        faultBehind("word ", "abcdefg worth 100", 4);
        faultBehind("word a worth ", "100 barred barred", 4);
        faultBehind("likely ", "ab 10", 4);
        faultBehind("likely a ", "10;likely a 1", 4);
        faultBehind(INN + ";word a worth   ", "100", 4);
    }

    private static void many() {
        CHECK.part("I: 5 MANY, at its first WORD; at it");
        faultBehind(words(24) + "  ;  ", "word y worth 100", 5);
        faultBehind(likelies(6) + "  ;  ", "likely gg 100", 5);
        faultBehind(guests(8) + "  ,  ", "i ,", 5);
        faultBehind("word a worth 1;seen a,a,a,a,a,a  ,  ", "a ,", 5);
    }

    private static void lacks() {
        CHECK.part("I: 6 LACKS, at the end: no inn, no word, no guest");
        lacksAtTheEnd("word a worth 1;guest al");
        lacksAtTheEnd(INN + ";guest al");
        lacksAtTheEnd(INN + ";word a worth 1");
        lacksAtTheEnd(INN);
        lacksAtTheEnd("word a worth 1");
        lacksAtTheEnd("guest al");
        lacksAtTheEnd("likely a 1");
        lacksAtTheEnd("word a worth 1;seen a");
        lacksAtTheEnd(INN + ";word a worth 1   ");
        // A barred word is one.
        sound(INN + ";word a worth 1 barred;guest al", 1);
    }

    private static void ofOnePlaceTheLeastNumber() {
        CHECK.part("I: of one place the least number");
        // At the end: form ahead of lacks.
        fault("", 1, 0);
        faultBehind("guest al;", "", 1);
        faultBehind("word a worth", "", 1);
        // A seventh that isn't told: untold ahead of many.
        faultBehind("word a worth 1;seen a,a,a,a,a,a,", "b", 2);
        // A ninth that is told again: again ahead of many.
        faultBehind(guests(8) + ",", "a", 3);
        faultBehind(guests(8) + ";guest ", "h", 3);
        // Too long for a word, and not told: untold ahead of bounds.
        faultBehind("word a worth 1;seen ", "abcdefg", 2);
        // More letters than a WORD has: form ahead of bounds, and of untold.
        faultBehind("word ", "abcdefghi", 1);
        faultBehind("word a worth 1;seen ", "abcdefghi", 1);
        // Too many digits: form ahead of bounds.
        faultBehind("word a worth ", "1000", 1);
    }

    private static void theFirstFromTheLeft() {
        CHECK.part("I: the first that is met from the left");
        faultBehind("guest ", "!;seen a", 1);
        faultBehind("seen ", "a!", 2);
        faultBehind("guest al,", "al,,", 3);
        faultBehind("inn tables ", "4;;", 4);
        faultBehind(guests(8) + ",", "i;;", 5);
        faultBehind("guest al;", "!", 1);
        faultBehind("word ", "abcdefg;seen b;guest al,al", 4);
        faultBehind("word a worth 1;seen ", "b;word a worth 1;inn tables 4", 2);
    }
}
