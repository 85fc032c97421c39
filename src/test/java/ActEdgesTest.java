/** Terms III, IV and promises 38 to 46, sentence by sentence: an evening seen, acts, what is seen, trouble. */
public final class ActEdgesTest {
    private static final Check CHECK = new Check();
    private static final int LOW = Integer.MIN_VALUE;
    private static final int HIGH = Integer.MAX_VALUE;
    private static final String STAIR = "a ab abc abcd abcde abcdef";
    private static final String SEEN_STAIR = "seen a,ab,abc,abcd,abcde,abcdef";

    public static void main(String[] args) {
        wrongNone();
        wrongTheFirstThatIsNotGood();
        wrongThatCannotComeOfTheOneAhead();
        wrongAsItGrows();
        wrongByActs();
        wrongRefused();
        waysNoneIfOneIsWrong();
        waysAsLongAsTheLastWord();
        waysOfRowsAsTheyCome();
        waysFirstOnesInAnyOrder();
        waysFurtherOnesByTheLetter();
        waysOfLikeGuests();
        waysByActs();
        waysRefused();
        waysOfRefused();
        theNightDoesNotMatter();
        renameToEveryLetter();
        renameTheNightBeginsAnew();
        renameRefused();
        renameRefusedChangesNothing();
        renameBackAgain();
        barAndNotAnyMore();
        barTheNightBeginsAnew();
        barAll();
        barRefused();
        barRefusedChangesNothing();
        guests();
        ledByNumbers();
        ledIfThereIsNoneSuch();
        sizes();
        sizesOfWhatThereIsNot();
        sizesWhenFull();
        sizeOfOthers();
        troubleOfEveryNumber();
        troubleOfTheLatest();
        troubleLeftByCallsWithoutANumber();
        CHECK.end();
    }

    // ---- 38: wrong

    private static WordTables seen(String house, String words, String guests, String seen) {
        return Told.inn(house, words, guests, "seen " + seen);
    }

    private static int wrong(String house, String words, String seen) {
        return seen(house, words, "z", seen).wrong();
    }

    private static void wrongNone() {
        CHECK.part("38: -2 if there is none");
        CHECK.due("one", wrong("1 6 any", STAIR, "a"), -2);
        CHECK.due("one, of six letters", wrong("1 6 any", STAIR, "abcdef"), -2);
        CHECK.due("two", wrong("1 6 any", STAIR, "a,ab"), -2);
        CHECK.due("from three letters on", wrong("1 6 any", STAIR, "abc,abcd"), -2);
        CHECK.due("six", wrong("1 6 any", STAIR, "a,ab,abc,abcd,abcde,abcdef"), -2);
    }

    private static void wrongTheFirstThatIsNotGood() {
        CHECK.part("III: WRONG: the first that isn't GOOD");
        CHECK.due("the first, barred", wrong("1 6 any", "a! ab abc", "a,ab,abc"), 0);
        CHECK.due("the only one, barred", wrong("1 6 any", "a!", "a"), 0);
        CHECK.due("the second, barred", wrong("1 6 any", "a ab! abc", "a,ab,abc"), 1);
        CHECK.due("the last, barred", wrong("1 6 any", "a ab abc!", "a,ab,abc"), 2);
        CHECK.due("two of them", wrong("1 6 any", "a ab! abc!", "a,ab,abc"), 1);
        for (int chairs = 1; chairs <= 5; chairs++) {
            WordTables x = Told.inn("1 " + chairs + " any", STAIR, "z", SEEN_STAIR);
            CHECK.granted(x, "chairs " + chairs, x.wrong(), chairs);
        }
    }

    private static void wrongThatCannotComeOfTheOneAhead() {
        CHECK.part("III: WRONG: or can't come of the one ahead");
        CHECK.due("two letters more", wrong("1 6 any", STAIR, "a,abc"), 1);
        CHECK.due("the same again", wrong("1 6 any", STAIR, "a,a"), 1);
        CHECK.due("one letter less", wrong("1 6 any", STAIR, "ab,a"), 1);
        CHECK.due("another one as long", wrong("1 6 any", "a b", "a,b"), 1);
        CHECK.due("other letters", wrong("1 6 any", "a bc", "a,bc"), 1);
        CHECK.due("the last of six", wrong("1 6 any", STAIR, "a,ab,abc,abcd,abcde,abcde"), 5);
        CHECK.due("of the one ahead, not of one ahead of it", wrong("1 6 any", "a ab ac abd", "a,ac,abd"), 2);
        CHECK.due("the first of two", wrong("1 6 any", STAIR, "a,abc,a"), 1);
        // The first one needn't come of an empty table.
        CHECK.due("the first one", wrong("1 6 any", "abc", "abc"), -2);
    }

    private static void wrongAsItGrows() {
        CHECK.part("III: WRONG, as it GROWS here");
        CHECK.due("amid, any", wrong("1 6 any", "ac abc", "ac,abc"), -2);
        CHECK.due("amid, ends", wrong("1 6 ends", "ac abc", "ac,abc"), 1);
        CHECK.due("ahead, ends", wrong("1 6 ends", "bc abc", "bc,abc"), -2);
        CHECK.due("ahead, back", wrong("1 6 back", "bc abc", "bc,abc"), 1);
        CHECK.due("behind, back", wrong("1 6 back", "ab abc", "ab,abc"), -2);
    }

    private static void wrongByActs() {
        CHECK.part("38: as WORDS are barred, or not any more");
        WordTables x = Told.inn("1 6 any", STAIR, "z", SEEN_STAIR);
        for (int w = 5; w >= 0; w--) {
            x.bar(w, true);
            CHECK.granted(x, "barred from " + w + " on", x.wrong(), w);
        }
        for (int w = 0; w < 6; w++) {
            x.bar(w, false);
            CHECK.granted(x, "barred behind " + w, x.wrong(), w == 5 ? -2 : w + 1);
        }
    }

    private static void wrongRefused() {
        CHECK.part("38: NONE: 1 (no INN); 6 (nothing was seen)");
        WordTables x = new WordTables();
        CHECK.refused(x, "wrong, no INN", x.wrong(), 1);
        x = Told.inn("1 6 any", "a", "z");
        CHECK.refused(x, "wrong, nothing was seen", x.wrong(), 6);
        Check.tell(x, Told.text("1 6 any", "a", "z", "seen a"));
        CHECK.granted(x, "wrong", x.wrong(), -2);
        Check.tell(x, Told.text("1 6 any", "a", "z"));
        CHECK.refused(x, "wrong, nothing was seen any more", x.wrong(), 6);
    }

    // ---- 39, 40: ways

    private static void ways(WordTables x, int due, int... of) {
        CHECK.granted(x, "ways", x.ways(), due);
        for (int g = 0; g < of.length; g++) {
            CHECK.granted(x, "waysOf(" + g + ")", x.waysOf(g), of[g]);
        }
        CHECK.refused(x, "waysOf(" + of.length + ")", x.waysOf(of.length), 1);
    }

    private static void waysNoneIfOneIsWrong() {
        CHECK.part("39: WAYS (0 if there is a WRONG one)");
        ways(seen("1 6 any", "a ab! abc", "a,b,c", "a,ab,abc"), 0, 0, 0, 0);
        ways(seen("1 6 any", "a ab abc!", "a,b,c", "a,ab,abc"), 0, 0, 0, 0);
        ways(seen("1 6 any", "a abc", "a,b,c", "a,abc"), 0, 0, 0, 0);
        ways(seen("1 6 any", "a!", "a", "a"), 0, 0);
        ways(seen("1 2 any", "abc", "a,b,c", "abc"), 0, 0, 0, 0);
        ways(seen("1 3 any", "abc", "a,b,c", "abc"), 1, 1, 1, 1);
    }

    private static void waysAsLongAsTheLastWord() {
        CHECK.part("III: WAYS: rows as long as the last WORD");
        ways(seen("1 6 any", STAIR, "a,b", "a,ab,abc"), 0, 0, 0);
        ways(seen("1 6 any", STAIR, "a,b,c", "a,ab,abc"), 1, 1, 1, 1);
        ways(seen("1 6 any", STAIR, "a,b,c,d", "a,ab,abc"), 1, 1, 1, 1, 0);
        ways(Told.inn("1 6 any", STAIR, "a,b,c,d,e,f", SEEN_STAIR), 1, 1, 1, 1, 1, 1, 1);
        ways(Told.inn("1 6 any", STAIR, "a,b,c,d,e", SEEN_STAIR), 0, 0, 0, 0, 0, 0);
        ways(Told.inn("1 6 any", STAIR, "z,a,b,c,d,e,y,f", SEEN_STAIR), 1, 0, 1, 1, 1, 1, 1, 0, 1);
    }

    private static void waysOfRowsAsTheyCome() {
        CHECK.part("III: rows of guests, as they come");
        ways(seen("1 6 back", STAIR, "b,a", "a,ab"), 0, 0, 0);
        ways(seen("1 6 back", STAIR, "b,a,bo", "a,ab"), 1, 0, 1, 1);
        ways(seen("1 6 back", STAIR, "a,c,b", "a,ab,abc"), 0, 0, 0, 0);
        ways(seen("1 6 back", STAIR, "a,c,b,cy", "a,ab,abc"), 1, 1, 0, 1, 1);
    }

    private static void waysFirstOnesInAnyOrder() {
        CHECK.part("III: the first ones (as many as the first WORD has) have its letters, in any order");
        ways(seen("1 6 back", STAIR, "b,a", "ab"), 1, 1, 1);
        ways(seen("1 6 back", STAIR, "c,a,b", "abc"), 1, 1, 1, 1);
        ways(seen("1 6 back", STAIR, "b,a,c", "ab,abc"), 1, 1, 1, 1);
        ways(seen("1 6 back", STAIR, "b,c,a", "ab,abc"), 0, 0, 0, 0);
        ways(seen("1 6 back", STAIR, "f,e,d,c,b,a", "abcdef"), 1, 1, 1, 1, 1, 1, 1);
        // Each of its letters as often as it has it.
        ways(seen("1 6 back", "aab", "a,b,bo", "aab"), 0, 0, 0, 0);
        ways(seen("1 6 back", "aab", "a,b,ann", "aab"), 1, 1, 1, 1);
        ways(seen("1 6 back", "aab", "a,b,ann,bo", "aab"), 2, 2, 1, 2, 1);
        ways(seen("1 6 back", "ab", "b,bo,a,aa", "ab"), 4, 2, 2, 2, 2);
        ways(seen("1 6 back", "ab", "a,aa,b,bo", "ab"), 4, 2, 2, 2, 2);
    }

    private static void waysFurtherOnesByTheLetter() {
        CHECK.part("III: each further one the letter by which the WORD grew");
        ways(seen("1 6 any", "b ab abc", "b,a,c", "b,ab,abc"), 1, 1, 1, 1);
        ways(seen("1 6 any", "b ab abc", "b,c,a", "b,ab,abc"), 0, 0, 0, 0);
        ways(seen("1 6 any", "b ab abc", "a,b,c", "b,ab,abc"), 0, 0, 0, 0);
        // The other way to the same word asks for another order.
        ways(seen("1 6 any", "b ab bc abc", "b,c,a", "b,bc,abc"), 1, 1, 1, 1);
        ways(seen("1 6 any", "b ab bc abc", "b,a,c", "b,bc,abc"), 0, 0, 0, 0);
    }

    private static void waysOfLikeGuests() {
        CHECK.part("39, 40: many rows");
        String eight = "a,aa,ab,ac,ad,ae,af,ag";
        WordTables x = seen("1 6 any", "aaaa", eight, "aaaa");
        ways(x, 70, 35, 35, 35, 35, 35, 35, 35, 35);
        ways(seen("1 6 any", "a", eight, "a"), 8, 1, 1, 1, 1, 1, 1, 1, 1);
        ways(seen("1 6 any", "aaaaaa", eight, "aaaaaa"), 28, 21, 21, 21, 21, 21, 21, 21, 21);
        ways(seen("1 6 any", "a ab", "a,aa,b,bb", "a,ab"), 4, 2, 2, 2, 2);
        ways(seen("1 6 any", "a ab", "a,b,aa,bb", "a,ab"), 3, 2, 1, 1, 2);
        ways(seen("1 6 any", "a", "z", "a"), 0, 0);
    }

    private static void waysByActs() {
        CHECK.part("39: as guests are renamed, WORDS barred");
        WordTables x = seen("1 6 any", "a ab", "a,b,c", "a,ab");
        ways(x, 1, 1, 1, 0);
        x.rename(2, 1);
        ways(x, 2, 2, 1, 1);
        x.bar(0, true);
        ways(x, 0, 0, 0, 0);
        x.bar(0, false);
        x.rename(0, 1);
        ways(x, 0, 0, 0, 0);
    }

    private static void waysRefused() {
        CHECK.part("39: NONE: 1 (no INN); 6");
        WordTables x = new WordTables();
        CHECK.refused(x, "ways, no INN", x.ways(), 1);
        x = Told.inn("1 6 any", "a", "a");
        CHECK.refused(x, "ways, nothing was seen", x.ways(), 6);
    }

    private static void waysOfRefused() {
        CHECK.part("40: NONE: 1; 6");
        WordTables x = new WordTables();
        CHECK.refused(x, "waysOf(0), no INN", x.waysOf(0), 1);
        x = seen("1 6 any", "a", "a,b", "a");
        for (int g : new int[] {-1, 2, 8, LOW, HIGH}) {
            CHECK.refused(x, "waysOf(" + g + ")", x.waysOf(g), 1);
        }
        CHECK.granted(x, "waysOf(1)", x.waysOf(1), 0);
        x = Told.inn("1 6 any", "a", "a,b");
        for (int g : new int[] {-1, 2, LOW, HIGH}) {
            CHECK.refused(x, "waysOf(" + g + "), nothing was seen", x.waysOf(g), 1);
        }
        CHECK.refused(x, "waysOf(0), nothing was seen", x.waysOf(0), 6);
        CHECK.refused(x, "waysOf(1), nothing was seen", x.waysOf(1), 6);
    }

    private static void theNightDoesNotMatter() {
        CHECK.part("38 to 40: whoever has come this NIGHT");
        WordTables x = seen("1 6 any", "a ab", "a,b,bo", "a,ab");
        for (int came = 0; came <= 3; came++) {
            CHECK.granted(x, "wrong", x.wrong(), -2);
            ways(x, 2, 2, 1, 1);
            CHECK.due("came", x.size(6), came);
            x.stand();
        }
    }

    // ---- 41: rename

    private static void renameToEveryLetter() {
        CHECK.part("41: a guest's letter is another one (0 .. 25) from now on");
        WordTables x = Told.inn("1 6 any", "a z", "mo,ned,oz");
        for (int letter = 0; letter < 26; letter++) {
            if (letter != 13) {
                CHECK.allowed(x, "rename(1, " + letter + ")", x.rename(1, letter));
                CHECK.granted(x, "guest(1)", x.guest(1), letter);
                CHECK.granted(x, "most", x.most(), letter == 0 || letter == 25 ? 1 : 0);
            }
        }
        CHECK.granted(x, "guest(0), as it was", x.guest(0), 12);
        CHECK.granted(x, "guest(2), as it was", x.guest(2), 14);
        CHECK.allowed(x, "rename(0, 0), the first guest", x.rename(0, 0));
        CHECK.allowed(x, "rename(2, 0), the last one, by the same letter", x.rename(2, 0));
        CHECK.granted(x, "guest(0)", x.guest(0), 0);
        CHECK.granted(x, "guest(2)", x.guest(2), 0);
        x.night(0);
        x.stand();
        x.come(2);
        CHECK.granted(x, "who comes by the new letter", x.table(0), 1);
    }

    /** A night in its midst, by host 2, one sitting, one standing, two marks. */
    private static void midnight(WordTables x) {
        Check.tell(x, Told.text("2 2 any", "a ab b! abc", "al,bo,cy", "likely a 2;likely b 1", "seen a,ab"));
        x.mark();
        x.night(2);
        x.come(1);
        x.mark();
        x.stand();
    }

    private static WordTables atMidnight() {
        WordTables x = new WordTables();
        midnight(x);
        CHECK.due("came", x.size(6), 2);
        CHECK.due("marks", x.size(8), 2);
        CHECK.due("table(0)", x.table(0), 0);
        CHECK.due("standing", x.standing(), 2);
        return x;
    }

    private static void anew(WordTables x) {
        CHECK.due("came", x.size(6), 0);
        CHECK.due("the HOST", x.size(7), 2);
        CHECK.due("marks", x.size(8), 0);
        CHECK.granted(x, "table(0)", x.table(0), -2);
        CHECK.granted(x, "table(1)", x.table(1), -2);
        CHECK.granted(x, "standing", x.standing(), 0);
        CHECK.ledNone(x, 0);
    }

    private static void renameTheNightBeginsAnew() {
        CHECK.part("III: RENAME: the NIGHT begins anew");
        WordTables x = atMidnight();
        CHECK.allowed(x, "rename(2, 1)", x.rename(2, 1));
        anew(x);
        CHECK.granted(x, "come(8)", x.come(8), 3);
    }

    private static void renameRefused() {
        CHECK.part("41: false: 1; 2; 5 (it is that already)");
        WordTables x = Told.inn("1 6 any", "a", "a,z");
        for (int g : new int[] {-1, 2, 8, LOW, HIGH}) {
            CHECK.denied(x, "rename(" + g + ", 1)", x.rename(g, 1), 1);
            CHECK.denied(x, "rename(" + g + ", 26)", x.rename(g, 26), 1);
        }
        for (int letter : new int[] {-1, 26, LOW, HIGH}) {
            CHECK.denied(x, "rename(0, " + letter + ")", x.rename(0, letter), 2);
            CHECK.denied(x, "rename(1, " + letter + ")", x.rename(1, letter), 2);
        }
        CHECK.denied(x, "rename(0, 0)", x.rename(0, 0), 5);
        CHECK.denied(x, "rename(1, 25)", x.rename(1, 25), 5);
        CHECK.allowed(x, "rename(0, 25)", x.rename(0, 25));
        CHECK.denied(x, "rename(0, 25), again", x.rename(0, 25), 5);
        x = new WordTables();
        CHECK.denied(x, "rename(0, 0), no INN", x.rename(0, 0), 1);
        CHECK.denied(x, "rename(0, 26), no INN", x.rename(0, 26), 1);
    }

    private static void renameRefusedChangesNothing() {
        CHECK.part("41: refused");
        CHECK.changesNothing("rename(3, 0)", x -> midnight(x), 1, x -> x.rename(3, 0));
        CHECK.changesNothing("rename(-1, 0)", x -> midnight(x), 1, x -> x.rename(-1, 0));
        CHECK.changesNothing("rename(0, 26)", x -> midnight(x), 2, x -> x.rename(0, 26));
        CHECK.changesNothing("rename(0, -1)", x -> midnight(x), 2, x -> x.rename(0, -1));
        CHECK.changesNothing("rename(0, 0)", x -> midnight(x), 5, x -> x.rename(0, 0));
    }

    private static void renameBackAgain() {
        CHECK.part("41: and back again");
        WordTables x = Told.inn("1 2 any", "a ab b", "a,b", "likely a 1", "seen a,ab");
        WordTables y = Told.inn("1 2 any", "a ab b", "a,b", "likely a 1", "seen a,ab");
        x.rename(0, 7);
        CHECK.granted(x, "able", x.able(), 1);
        CHECK.granted(x, "ever", x.ever(), 1);
        CHECK.granted(x, "wanted", x.wanted(), -2);
        CHECK.granted(x, "gains(0)", x.gains(0), 1);
        CHECK.granted(x, "sits(3)", x.sits(3), 1);
        CHECK.granted(x, "ways", x.ways(), 0);
        x.rename(0, 0);
        CHECK.due("as it was", Look.atInn(x), Look.atInn(y));
    }

    // ---- 42: bar

    private static void barAndNotAnyMore() {
        CHECK.part("42: BAR, or not any more");
        WordTables x = Told.inn("1 2 any", "a b! abc abd!", "a,b");
        CHECK.allowed(x, "bar(0, true)", x.bar(0, true));
        CHECK.granted(x, "word(0, 2)", x.word(0, 2), 1);
        CHECK.granted(x, "word(0, 3)", x.word(0, 3), 0);
        CHECK.granted(x, "most", x.most(), 0);
        CHECK.allowed(x, "bar(1, false)", x.bar(1, false));
        CHECK.granted(x, "word(1, 2)", x.word(1, 2), 0);
        CHECK.granted(x, "word(1, 3)", x.word(1, 3), 1);
        CHECK.granted(x, "plan(0)", x.plan(0), 1);
        CHECK.allowed(x, "bar(2, true), one too long", x.bar(2, true));
        CHECK.allowed(x, "bar(3, false), the last one, too long", x.bar(3, false));
        CHECK.granted(x, "word(2, 2)", x.word(2, 2), 1);
        CHECK.granted(x, "word(3, 2)", x.word(3, 2), 0);
        CHECK.granted(x, "word(3, 3)", x.word(3, 3), 0);
        CHECK.allowed(x, "bar(0, false)", x.bar(0, false));
        CHECK.granted(x, "plan(0)", x.plan(0), 0);
    }

    private static void barTheNightBeginsAnew() {
        CHECK.part("III: BAR a WORD, or not any more: the NIGHT begins anew");
        WordTables x = atMidnight();
        CHECK.allowed(x, "bar(3, true)", x.bar(3, true));
        anew(x);
        x = atMidnight();
        CHECK.allowed(x, "bar(2, false)", x.bar(2, false));
        anew(x);
        x = atMidnight();
        CHECK.allowed(x, "bar(0, true), the one at the table", x.bar(0, true));
        anew(x);
    }

    private static void barAll() {
        CHECK.part("42: all WORDS are barred");
        WordTables x = Told.inn("2 6 any", "a ab", "a,b", "likely a 1", "seen a,ab");
        x.bar(0, true);
        x.bar(1, true);
        CHECK.granted(x, "most", x.most(), 0);
        CHECK.granted(x, "plan(0)", x.plan(0), -2);
        CHECK.granted(x, "richest", x.richest(), 0);
        CHECK.granted(x, "fewest", x.fewest(), -2);
        CHECK.granted(x, "wanted", x.wanted(), -2);
        CHECK.granted(x, "gains(0)", x.gains(0), 0);
        CHECK.granted(x, "able", x.able(), 0);
        CHECK.granted(x, "ever", x.ever(), 0);
        CHECK.granted(x, "can", x.can(), 0);
        CHECK.granted(x, "game", x.game(), 0);
        CHECK.granted(x, "move", x.move(), -2);
        CHECK.granted(x, "grundy(-1)", x.grundy(-1), 0);
        CHECK.granted(x, "hope(4, false)", x.hope(4, false), 0);
        CHECK.granted(x, "hope(4, true)", x.hope(4, true), 1);
        CHECK.granted(x, "wrong", x.wrong(), 0);
        CHECK.granted(x, "ways", x.ways(), 0);
        CHECK.granted(x, "steps(-1, -1, -1, 0)", x.steps(-1, -1, -1, 0), 0);
        CHECK.granted(x, "come(8)", x.come(8), 2);
        CHECK.granted(x, "standing", x.standing(), 3);
    }

    private static void barRefused() {
        CHECK.part("42: false: 1; 5 (it is so already)");
        WordTables x = Told.inn("1 6 any", "a b!", "a");
        for (int w : new int[] {-2, -1, 2, 24, LOW, HIGH}) {
            CHECK.denied(x, "bar(" + w + ", true)", x.bar(w, true), 1);
            CHECK.denied(x, "bar(" + w + ", false)", x.bar(w, false), 1);
        }
        CHECK.denied(x, "bar(0, false)", x.bar(0, false), 5);
        CHECK.denied(x, "bar(1, true)", x.bar(1, true), 5);
        CHECK.allowed(x, "bar(0, true)", x.bar(0, true));
        CHECK.denied(x, "bar(0, true), again", x.bar(0, true), 5);
        CHECK.allowed(x, "bar(1, false)", x.bar(1, false));
        CHECK.denied(x, "bar(1, false), again", x.bar(1, false), 5);
        x = new WordTables();
        CHECK.denied(x, "bar(0, true), no INN", x.bar(0, true), 1);
        CHECK.denied(x, "bar(0, false), no INN", x.bar(0, false), 1);
    }

    private static void barRefusedChangesNothing() {
        CHECK.part("42: refused");
        CHECK.changesNothing("bar(4, true)", x -> midnight(x), 1, x -> x.bar(4, true));
        CHECK.changesNothing("bar(-1, true)", x -> midnight(x), 1, x -> x.bar(-1, true));
        CHECK.changesNothing("bar(0, false)", x -> midnight(x), 5, x -> x.bar(0, false));
        CHECK.changesNothing("bar(2, true)", x -> midnight(x), 5, x -> x.bar(2, true));
        WordTables x = Told.inn("1 2 any", "a ab b", "a,b", "likely a 1", "seen a,ab");
        WordTables y = Told.inn("1 2 any", "a ab b", "a,b", "likely a 1", "seen a,ab");
        x.bar(1, true);
        x.able();
        x.ever();
        x.wanted();
        x.gains(0);
        x.hope(2, true);
        x.bar(1, false);
        CHECK.due("not any more: as it was", Look.atInn(x), Look.atInn(y));
    }

    // ---- 43, 44: guests

    private static void guests() {
        CHECK.part("43: a guest's letter now. NONE: 1");
        WordTables x = Told.inn("1 6 any", "a", "zoe,al,a,zed,mo,b,c,yan");
        int[] due = {25, 0, 0, 25, 12, 1, 2, 24};
        for (int g = 0; g < 8; g++) {
            CHECK.granted(x, "guest(" + g + ")", x.guest(g), due[g]);
        }
        for (int g : new int[] {-1, 8, LOW, HIGH}) {
            CHECK.refused(x, "guest(" + g + ")", x.guest(g), 1);
        }
        x.rename(7, 3);
        CHECK.granted(x, "guest(7), renamed", x.guest(7), 3);
        x = Told.inn("1 6 any", "a", "zoe");
        CHECK.granted(x, "guest(0), of one", x.guest(0), 25);
        CHECK.refused(x, "guest(1), of one", x.guest(1), 1);
        x = new WordTables();
        CHECK.refused(x, "guest(0), no INN", x.guest(0), 1);
    }

    private static void ledByNumbers() {
        CHECK.part("44: the i-th guest, by numbers, that sits this NIGHT");
        WordTables x = Told.inn("2 6 back", "a ab b bc bcd", "a,b,z,c,bo,y,d,x");
        x.seat(1, 0);
        x.seat(0, 2);
        x.come(6);
        int[] due = {0, 1, 3, 4, 6};
        for (int i = 0; i < 5; i++) {
            CHECK.due("led(" + i + ")", x.led(i), due[i]);
        }
        CHECK.ledNone(x, 5);
        // All eight.
        x = Told.inn("2 6 back", "a aa aaa aaaa", "a,aa,ab,ac,ad,ae,af,ag");
        x.come(8);
        for (int i = 0; i < 8; i++) {
            CHECK.due("led(" + i + ") of all", x.led(i), i);
        }
        CHECK.ledNone(x, 8);
    }

    private static void ledIfThereIsNoneSuch() {
        CHECK.part("44: NoSuchElementException if there is none such");
        WordTables x = new WordTables();
        CHECK.ledNone(x, 0);
        Check.tell(x, Told.text("1 6 any", "a", "b,a,c"));
        CHECK.ledNone(x, 0);
        x.come(1);
        CHECK.ledNone(x, 0);
        x.come(1);
        CHECK.due("led(0)", x.led(0), 1);
        for (int i : new int[] {-1, 1, 2, 8, 31, 32, LOW, HIGH}) {
            CHECK.ledNone(x, i);
        }
        CHECK.due("led(0), still", x.led(0), 1);
        CHECK.due("came, still", x.size(6), 2);
        x.night(0);
        CHECK.ledNone(x, 0);
        x.come(3);
        x.rename(0, 0);
        CHECK.ledNone(x, 0);
    }

    // ---- 45: sizes

    private static void sizesDue(WordTables x, int... due) {
        for (int what = 0; what < due.length; what++) {
            CHECK.due("size(" + what + ")", x.size(what), due[what]);
        }
    }

    private static void sizes() {
        CHECK.part("45: 0 tables, 1 chairs, .. 9 bytes of THE TAPE");
        WordTables x = Told.inn("2 5 any", "a b c! abcdef", "a,b,c", "likely a 1;likely b 1;likely c 1;likely d 1;likely e 1",
            "seen a,a,a,b,b,b");
        sizesDue(x, 2, 5, 4, 3, 5, 6, 0, 0, 0, 0);
        x.night(3);
        x.come(2);
        x.mark();
        x.feed(0, 0, 0, 0, 0);
        sizesDue(x, 2, 5, 4, 3, 5, 6, 2, 3, 1, 20);
        x.bar(0, true);
        sizesDue(x, 2, 5, 4, 3, 5, 6, 0, 3, 0, 20);
    }

    private static void sizesOfWhatThereIsNot() {
        CHECK.part("45: 0 for what there isn't");
        sizesDue(new WordTables(), 0, 0, 0, 0, 0, 0, 0, 0, 0, 0);
        sizesDue(Told.inn("1 1 any", "a", "a"), 1, 1, 1, 1, 0, 0, 0, 0, 0, 0);
        WordTables x = new WordTables();
        Check.tell(x, "inn tables 3 chairs 6 grows any;word a worth 1");
        CHECK.due("refused: trouble", x.trouble(), 4);
        sizesDue(x, 0, 0, 0, 0, 0, 0, 0, 0, 0, 0);
    }

    private static void sizesWhenFull() {
        CHECK.part("45: all that there is room for");
        StringBuilder words = new StringBuilder("a");
        for (int w = 1; w < 24; w++) {
            words.append(' ').append((char) ('a' + w));
        }
        WordTables x = Told.inn("3 6 any", words.toString(), "a,b,c,d,e,f,g,h",
            "likely a 1;likely b 1;likely c 1;likely d 1;likely e 1;likely f 1", "seen a,b,c,d,e,f");
        x.night(3);
        x.come(8);
        x.mark();
        x.mark();
        x.mark();
        for (int i = 0; i < 45; i++) {
            x.feed(0, 0, 0, 0, 0);
        }
        sizesDue(x, 3, 6, 24, 8, 6, 6, 8, 3, 3, 900);
    }

    private static void sizeOfOthers() {
        CHECK.part("45: NONE for others");
        WordTables x = Told.inn("2 5 any", "a", "a");
        for (int what : new int[] {-1, 10, 11, LOW, HIGH}) {
            CHECK.due("size(" + what + ")", x.size(what), -1);
            CHECK.due("size(" + what + "), no INN", new WordTables().size(what), -1);
        }
    }

    // ---- IV and 46: trouble

    private static void troubleOfEveryNumber() {
        CHECK.part("IV: TROUBLE: 0 to 6");
        WordTables x = Told.inn("1 6 any", "a", "a");
        CHECK.due("it wasn't", x.trouble(), 0);
        x.word(1, 0);
        CHECK.due("there is none such", x.trouble(), 1);
        x.come(0);
        CHECK.due("a number", x.trouble(), 2);
        for (int i = 0; i < 4; i++) {
            x.mark();
        }
        CHECK.due("no room", x.trouble(), 3);
        x.inn(0);
        CHECK.due("a FAULT", x.trouble(), 4);
        x.bar(0, false);
        CHECK.due("not so", x.trouble(), 5);
        x.wrong();
        CHECK.due("there is none", x.trouble(), 6);
        x.most();
        CHECK.due("it wasn't", x.trouble(), 0);
    }

    private static void troubleIs(WordTables x, String call, int due) {
        CHECK.due("trouble behind " + call, x.trouble(), due);
        // The next call is to wipe it out.
        x.word(-1, 0);
        CHECK.due("trouble", x.trouble(), 1);
    }

    /** Each call that may be refused, but isn't, wipes the trouble out. */
    private static void troubleOfTheLatest() {
        CHECK.part("46: of the latest call that may be refused");
        WordTables x = Told.inn("1 6 any", "a ab", "a,b", "likely a 1", "seen a");
        x.word(-1, 0);
        x.word(0, 0);
        troubleIs(x, "word", 0);
        x.letter(0, 0);
        troubleIs(x, "letter", 0);
        x.grows(0, 0);
        troubleIs(x, "grows, -2", 0);
        x.chain(0);
        troubleIs(x, "chain", 0);
        x.ladder(0, 1);
        troubleIs(x, "ladder", 0);
        x.rung(0, 1, 1);
        troubleIs(x, "rung", 0);
        x.grundy(-1);
        troubleIs(x, "grundy", 0);
        x.worth();
        troubleIs(x, "worth", 0);
        x.plan(0);
        troubleIs(x, "plan", 0);
        x.richest();
        troubleIs(x, "richest", 0);
        x.fewest();
        troubleIs(x, "fewest", 0);
        x.wanted();
        troubleIs(x, "wanted", 0);
        x.gains(25);
        troubleIs(x, "gains", 0);
        x.night(1);
        troubleIs(x, "night", 0);
        x.mark();
        troubleIs(x, "mark", 0);
        x.can();
        troubleIs(x, "can", 0);
        x.seat(0, 0);
        troubleIs(x, "seat", 0);
        x.stand();
        troubleIs(x, "stand", 0);
        x.table(0);
        troubleIs(x, "table", 0);
        x.standing();
        troubleIs(x, "standing", 0);
        x.ever();
        troubleIs(x, "ever", 0);
        x.rises(0);
        troubleIs(x, "rises", 0);
        x.steps(1, -1, -1, 0);
        troubleIs(x, "steps", 0);
        x.able();
        troubleIs(x, "able", 0);
        x.sits(0);
        troubleIs(x, "sits", 0);
        x.hope(1, true);
        troubleIs(x, "hope", 0);
        x.game();
        troubleIs(x, "game", 0);
        x.move();
        troubleIs(x, "move", 0);
        x.back(0);
        troubleIs(x, "back", 0);
        x.come(1);
        troubleIs(x, "come", 0);
        x.wrong();
        troubleIs(x, "wrong, -2", 0);
        x.ways();
        troubleIs(x, "ways", 0);
        x.waysOf(0);
        troubleIs(x, "waysOf", 0);
        x.rename(0, 1);
        troubleIs(x, "rename", 0);
        x.bar(0, true);
        troubleIs(x, "bar", 0);
        x.guest(0);
        troubleIs(x, "guest", 0);
        Check.tell(x, Told.text("1 6 any", "a", "a"));
        troubleIs(x, "inn", 0);
    }

    private static void troubleLeftByCallsWithoutANumber() {
        CHECK.part("IV: (those of which a number is told here)");
        WordTables x = Told.inn("1 6 any", "a", "a");
        x.come(1);
        x.come(1);
        CHECK.due("trouble", x.trouble(), 6);
        x.feed(0, 0, 0, 0, 0);
        CHECK.due("behind feed", x.trouble(), 6);
        x.fault();
        CHECK.due("behind fault", x.trouble(), 6);
        x.where();
        CHECK.due("behind where", x.trouble(), 6);
        x.led(0);
        CHECK.due("behind led", x.trouble(), 6);
        CHECK.ledNone(x, 1);
        CHECK.due("behind led that throws", x.trouble(), 6);
        x.size(0);
        x.size(10);
        CHECK.due("behind size", x.trouble(), 6);
        CHECK.due("behind trouble", x.trouble(), 6);
        for (int i = 0; i < 46; i++) {
            x.feed(0, 0, 0, 0, 0);
        }
        CHECK.due("behind feed for which there is no room", x.trouble(), 6);
    }
}
