/** Terms III and promise 30, sentence by sentence: steps from tables as they are to told ones. */
public final class StepEdgesTest {
    private static final Check CHECK = new Check();
    private static final int LOW = Integer.MIN_VALUE;
    private static final int HIGH = Integer.MAX_VALUE;
    private static final String STAIR = "a ab abc";

    public static void main(String[] args) {
        noStepAtAll();
        ofGuestsThatHaveCome();
        oneWhoStandsSits();
        oneGetsUpToAGoodWord();
        oneGetsUpToEmpty();
        theLetterMustStand();
        aWordThatCannotBeReached();
        noMoreStandThanTold();
        whoStoodAlready();
        aRowOfSteps();
        tablesChange();
        everyTable();
        theFewest();
        roundAbout();
        aLongWayRound();
        wordNoughtAtAllTables();
        minusOneForWhatIsNotThere();
        noSuchWordOrTable();
        upFromNoughtToEight();
        oneIsNotGood();
        theOrderOfRefusals();
        refusedCallsChangeNothing();
        CHECK.end();
    }

    private static void steps(WordTables x, int a, int b, int c, int up, int due) {
        CHECK.granted(x, "steps(" + a + ", " + b + ", " + c + ", " + up + ")", x.steps(a, b, c, up), due);
    }

    private static void refused(WordTables x, int a, int b, int c, int up, int number) {
        CHECK.refused(x, "steps(" + a + ", " + b + ", " + c + ", " + up + ")", x.steps(a, b, c, up), number);
    }

    /** All have come, none of them sits. */
    private static WordTables allStand(String house, String words, String guests) {
        WordTables x = Told.inn(house, words, guests);
        for (int g = 0; g < 8; g++) {
            x.stand();
        }
        return x;
    }

    private static WordTables allCome(String house, String words, String guests) {
        WordTables x = Told.inn(house, words, guests);
        x.come(8);
        return x;
    }

    private static void noStepAtAll() {
        CHECK.part("III: STEPS to tables as they are");
        WordTables x = Told.inn("2 6 back", STAIR, "a,b,c");
        steps(x, -1, -1, -1, 0, 0);
        steps(x, -1, -1, -1, 8, 0);
        x.come(3);
        steps(x, 2, -1, -1, 0, 0);
        steps(x, 2, -1, -1, 8, 0);
        x = allStand("2 6 back", STAIR, "a,b,c");
        steps(x, -1, -1, -1, 3, 0);
        // Behind no step there is none to look at.
        steps(x, -1, -1, -1, 2, 0);
        steps(x, -1, -1, -1, 0, 0);
    }

    private static void ofGuestsThatHaveCome() {
        CHECK.part("III: of guests that have come");
        WordTables x = Told.inn("1 6 back", STAIR, "a,b,c");
        steps(x, 0, -1, -1, 8, -2);
        x.stand();
        steps(x, 0, -1, -1, 8, 1);
        steps(x, 1, -1, -1, 8, -2);
        x.stand();
        steps(x, 1, -1, -1, 8, 2);
        steps(x, 2, -1, -1, 8, -2);
        x.stand();
        steps(x, 2, -1, -1, 8, 3);
    }

    private static void oneWhoStandsSits() {
        CHECK.part("III: in each one who stands sits at a table that grows by the letter");
        WordTables x = allStand("1 6 back", STAIR + " b bc", "a,b,c");
        steps(x, 0, -1, -1, 8, 1);
        steps(x, 1, -1, -1, 8, 2);
        steps(x, 3, -1, -1, 8, 1);
        steps(x, 4, -1, -1, 8, 2);
        // Whoever came first may sit last.
        steps(allStand("1 6 back", STAIR, "c,b,a"), 2, -1, -1, 8, 3);
    }

    private static void oneGetsUpToAGoodWord() {
        CHECK.part("III: one gets up from a table that becomes, the other way round, a GOOD WORD");
        steps(allCome("1 6 back", STAIR, "a,b,c"), 1, -1, -1, 8, 1);
        // The other way round of how it grows here: b gets up from ab, or a does.
        steps(allCome("1 6 any", "a ab b", "a,b"), 2, -1, -1, 8, 1);
        steps(allCome("1 6 ends", "a ab b", "a,b"), 2, -1, -1, 8, 1);
        steps(allCome("1 6 back", "a ab b", "a,b"), 2, -1, -1, 8, 3);
        // From the midst of abc.
        steps(allCome("1 6 any", "a ab abc ac", "a,b,c"), 3, -1, -1, 8, 1);
        steps(allCome("1 6 ends", "a ab abc ac", "a,b,c"), 3, -1, -1, 8, 3);
        // bc isn't told, or barred: no step goes there.
        steps(allCome("1 6 any", "a ab abc c", "a,b,c"), 3, -1, -1, 8, 4);
        steps(allCome("1 6 any", "a ab abc c bc!", "a,b,c"), 3, -1, -1, 8, 4);
        steps(allCome("1 6 any", "a ab abc c bc", "a,b,c"), 3, -1, -1, 8, 2);
    }

    private static void oneGetsUpToEmpty() {
        CHECK.part("III: or empty (from one letter)");
        steps(allCome("1 6 back", STAIR, "a"), -1, -1, -1, 8, 1);
        steps(allCome("1 6 back", STAIR, "a,b"), -1, -1, -1, 8, 2);
        steps(allCome("1 6 back", STAIR, "a,b,c"), -1, -1, -1, 8, 3);
    }

    private static void theLetterMustStand() {
        CHECK.part("30: -2 if it can't be: letters");
        WordTables x = allStand("2 6 back", "a ab aa", "a,b,c");
        steps(x, 1, -1, -1, 8, 2);
        steps(x, 1, 0, -1, 8, -2);
        steps(x, 2, -1, -1, 8, -2);
        x = allStand("2 6 back", "a ab aa", "a,b,aa");
        steps(x, 1, 0, -1, 8, 3);
        steps(x, 2, -1, -1, 8, 2);
        steps(x, 1, 1, -1, 8, -2);
        steps(x, 2, 0, -1, 8, -2);
    }

    private static void aWordThatCannotBeReached() {
        CHECK.part("30: -2 if it can't be: no table grows so");
        steps(allStand("1 6 back", "a abc", "a,b,c"), 1, -1, -1, 8, -2);
        steps(allStand("1 6 back", "ab abc", "a,b,c"), 0, -1, -1, 8, -2);
        steps(allStand("1 6 back", "a ab! abc", "a,b,c"), 2, -1, -1, 8, -2);
        steps(allStand("1 6 back", "b ab", "a,b"), 1, -1, -1, 8, -2);
        steps(allStand("1 6 ends", "b ab", "a,b"), 1, -1, -1, 8, 2);
    }

    private static void noMoreStandThanTold() {
        CHECK.part("III: behind no step more stand than told");
        WordTables x = allCome("1 6 back", STAIR, "a,b,c");
        int[] goals = {-1, 0, 1};
        for (int sit = 0; sit < 3; sit++) {
            int up = 3 - sit;
            steps(x, goals[sit], -1, -1, up, up);
            steps(x, goals[sit], -1, -1, up - 1, -2);
            steps(x, goals[sit], -1, -1, 8, up);
        }
        // For a moment two stand, though in the end one does.
        x = allCome("1 6 back", "a ab b", "a,b");
        steps(x, 2, -1, -1, 2, 3);
        steps(x, 2, -1, -1, 1, -2);
    }

    private static void whoStoodAlready() {
        CHECK.part("III: behind no step: who stood ahead of the first one doesn't count");
        WordTables x = allStand("1 6 back", STAIR, "a,b,c");
        steps(x, 0, -1, -1, 2, 1);
        steps(x, 0, -1, -1, 1, -2);
        steps(x, 2, -1, -1, 2, 3);
        steps(x, 2, -1, -1, 1, -2);
        x = allStand("1 6 back", STAIR, "a");
        steps(x, 0, -1, -1, 0, 1);
        x = allStand("1 6 back", STAIR, "a,b");
        steps(x, 1, -1, -1, 1, 2);
        steps(x, 1, -1, -1, 0, -2);
        // Eight stand: seven behind the first step.
        x = allStand("1 6 back", STAIR, "a,b,c,d,e,f,g,h");
        steps(x, 0, -1, -1, 7, 1);
        steps(x, 0, -1, -1, 6, -2);
        steps(x, 2, -1, -1, 8, 3);
    }

    private static void aRowOfSteps() {
        CHECK.part("III: STEPS: as many as there are letters");
        String six = "a ab abc abcd abcde abcdef g gh";
        WordTables x = allStand("2 6 back", six, "a,b,c,d,e,f,g,h");
        steps(x, 5, 7, -1, 7, 8);
        steps(x, 5, 7, -1, 6, -2);
        x = allCome("2 6 back", six, "a,b,c,d,e,f,g,h");
        steps(x, 5, 7, -1, 0, 0);
        steps(x, -1, -1, -1, 8, 8);
        steps(x, -1, -1, -1, 7, -2);
        steps(x, 7, 5, -1, 8, 16);
        steps(x, 7, 5, -1, 7, -2);
    }

    private static void tablesChange() {
        CHECK.part("III: from table to table");
        WordTables x = allCome("2 6 back", "a", "a");
        steps(x, -1, 0, -1, 1, 2);
        steps(x, -1, 0, -1, 0, -2);
        // Another one by the same letter will do.
        x = Told.inn("2 6 back", "a", "a,aa");
        x.come(1);
        x.stand();
        steps(x, 0, 0, -1, 0, 1);
        steps(x, -1, 0, -1, 1, 2);
        steps(x, -1, 0, -1, 0, -2);
        // a and b change tables: both stand for a moment, unless they may sit together.
        x = allCome("2 6 any", "a b", "a,b");
        steps(x, 1, 0, -1, 2, 4);
        steps(x, 1, 0, -1, 1, -2);
        x = Told.inn("2 6 any", "a b ba", "a,b");
        x.seat(0, 0);
        x.seat(1, 1);
        steps(x, 1, 0, -1, 2, 4);
        steps(x, 1, 0, -1, 1, 4);
        steps(x, 1, 0, -1, 0, -2);
    }

    private static void everyTable() {
        CHECK.part("30: to tables a, b, c");
        WordTables x = allStand("3 6 back", "a b c", "a,b,c");
        steps(x, 0, -1, -1, 8, 1);
        steps(x, -1, 0, -1, 8, 1);
        steps(x, -1, -1, 0, 8, 1);
        steps(x, 0, 1, 2, 8, 3);
        steps(x, 2, 0, 1, 8, 3);
        x.night(0);
        x.seat(2, 0);
        x.seat(1, 1);
        steps(x, -1, 1, 0, 0, 0);
        steps(x, 0, 1, -1, 1, 2);
        steps(x, -1, -1, -1, 2, 2);
        x.seat(0, 2);
        steps(x, 2, 1, 0, 0, 0);
        steps(x, 0, 1, 2, 2, 4);
        steps(x, 0, 1, 2, 1, -2);
        // c and b get up, b sits, a gets up and sits, c sits.
        steps(x, 1, 0, 2, 2, 6);
        steps(x, 1, 0, 2, 1, -2);
    }

    private static void theFewest() {
        CHECK.part("III: the fewest");
        // From ab to ac: b gets up, c sits; by any other way four and more.
        WordTables x = Told.inn("1 6 any", "a ab ac abc c bc", "a,b,c");
        x.come(2);
        x.stand();
        steps(x, 2, -1, -1, 8, 2);
        steps(x, 2, -1, -1, 1, 2);
        steps(x, 5, -1, -1, 8, 2);
        // Through abc, if no more than one may stand: a gets up behind it.
        steps(x, 5, -1, -1, 1, 2);
        steps(x, 5, -1, -1, 0, -2);
        // A way round, as the straight one would have too many stand.
        x = Told.inn("2 6 back", "a ab b bc", "a,b,c");
        x.seat(0, 0);
        x.seat(0, 1);
        x.stand();
        steps(x, 0, 3, -1, 2, 3);
        steps(x, 0, 3, -1, 1, -2);
    }

    private static void roundAbout() {
        CHECK.part("III: the fewest, though some lead away from what is told");
        // c must make room for d, but no more than one may stand: d sits with a, c sits with both, d gets up, and so on.
        String words = "a c d ad adc ac";
        WordTables x = Told.inn("2 6 any", words, "a,c,d");
        x.seat(0, 0);
        x.seat(1, 1);
        x.stand();
        steps(x, 0, 2, -1, 2, 2);
        steps(x, 0, 2, -1, 1, 6);
        steps(x, 0, 2, -1, 0, -2);
        // The same at other tables.
        x = Told.inn("3 6 any", words, "a,c,d");
        x.seat(2, 0);
        x.seat(0, 1);
        x.stand();
        steps(x, 2, -1, 0, 2, 2);
        // d sits at the empty table, c goes to a, d goes where c was, c gets up again.
        steps(x, 2, -1, 0, 1, 6);
        // Without adc there is no way round.
        x = Told.inn("2 6 any", "a c d ad ac", "a,c,d");
        x.seat(0, 0);
        x.seat(1, 1);
        x.stand();
        steps(x, 0, 2, -1, 2, 2);
        steps(x, 0, 2, -1, 1, -2);
        // An a sits at the third table till b has the first one: for a moment all three are the first WORD.
        x = Told.inn("3 6 any", "a b", "a,aa,ab,b");
        x.seat(0, 0);
        x.seat(1, 0);
        x.stand();
        x.stand();
        steps(x, 1, 0, -1, 3, 2);
        steps(x, 1, 0, -1, 2, 4);
        steps(x, 1, 0, -1, 1, -2);
    }

    private static void aLongWayRound() {
        CHECK.part("III: the fewest, far away from what is told");
        // a and b change tables: by way of ab while c stands, by way of ac and bc if c must sit.
        WordTables x = Told.inn("2 6 any", "a b c ac acb ab bc", "a,b,c");
        x.seat(0, 0);
        x.seat(1, 1);
        x.stand();
        steps(x, 1, 0, -1, 3, 4);
        steps(x, 1, 0, -1, 2, 4);
        steps(x, 1, 0, -1, 1, 6);
        steps(x, 1, 0, -1, 0, -2);
        // Without bc c goes to and fro: to a, to where b was, and up again.
        x.bar(6, true);
        x.seat(0, 0);
        x.seat(1, 1);
        x.stand();
        steps(x, 1, 0, -1, 2, 4);
        steps(x, 1, 0, -1, 1, 8);
    }

    private static void wordNoughtAtAllTables() {
        CHECK.part("30: the first WORD at all tables, the last one at all");
        WordTables x = allStand("3 6 back", "a b", "a,aa,ab,b,bb,bc");
        steps(x, 0, 0, 0, 8, 3);
        steps(x, 1, 1, 1, 8, 3);
        x.night(0);
        x.come(3);
        steps(x, 0, 0, 0, 0, 0);
        steps(x, -1, 0, 0, 1, 1);
        x.stand();
        x.stand();
        x.stand();
        steps(x, 1, 1, 1, 6, 6);
        steps(x, 1, 1, 1, 4, 6);
        steps(x, 1, 1, 1, 3, -2);
        StringBuilder words = new StringBuilder("a");
        for (int w = 1; w < 24; w++) {
            words.append(' ').append((char) ('a' + w));
        }
        x = allStand("3 6 back", words.toString(), "x,xa,xb,a,b");
        steps(x, 23, 23, 23, 8, 3);
        steps(x, 0, 23, 1, 8, 3);
        steps(x, 23, 23, 22, 8, -2);
    }

    private static void minusOneForWhatIsNotThere() {
        CHECK.part("30: -1 empty; -1 for what isn't there");
        WordTables one = allCome("1 6 back", STAIR, "a,b,c");
        steps(one, 1, -1, -1, 8, 1);
        refused(one, 1, 0, -1, 8, 1);
        refused(one, 1, -1, 0, 8, 1);
        refused(one, 1, 0, 0, 8, 1);
        WordTables two = allCome("2 6 back", STAIR, "a,b,c");
        steps(two, 1, -1, -1, 8, 1);
        steps(two, -1, 0, -1, 8, 4);
        refused(two, 1, 0, 0, 8, 1);
        refused(two, 1, -1, 0, 8, 1);
        WordTables three = allCome("3 6 back", STAIR, "a,b,c");
        steps(three, 1, -1, -1, 8, 1);
        steps(three, -1, -1, 0, 8, 4);
    }

    private static void noSuchWordOrTable() {
        CHECK.part("30: NONE: 1 (no INN, no such WORD, no such table)");
        WordTables x = allCome("3 6 back", STAIR, "a,b,c");
        for (int w : new int[] {-2, 3, 24, LOW, HIGH}) {
            refused(x, w, -1, -1, 8, 1);
            refused(x, -1, w, -1, 8, 1);
            refused(x, -1, -1, w, 8, 1);
        }
        x = allCome("1 6 back", STAIR, "a,b,c");
        for (int w : new int[] {-2, 3, LOW, HIGH}) {
            refused(x, 2, w, -1, 8, 1);
            refused(x, 2, -1, w, 8, 1);
        }
        x = new WordTables();
        refused(x, -1, -1, -1, 0, 1);
        refused(x, 0, -1, -1, 0, 1);
        refused(x, -1, -1, -1, 9, 1);
    }

    private static void upFromNoughtToEight() {
        CHECK.part("30: up (0 .. 8) standing at most; NONE: 2");
        WordTables x = allCome("1 6 back", STAIR, "a,b,c");
        for (int up = 0; up <= 8; up++) {
            steps(x, 2, -1, -1, up, 0);
        }
        for (int up : new int[] {-1, 9, LOW, HIGH}) {
            refused(x, 2, -1, -1, up, 2);
            refused(x, 0, -1, -1, up, 2);
        }
    }

    private static void oneIsNotGood() {
        CHECK.part("30: NONE: 5 (one isn't GOOD)");
        WordTables x = allCome("3 2 back", "a ab! abc b", "a,b,c");
        for (int w = 1; w <= 2; w++) {
            refused(x, w, -1, -1, 8, 5);
            refused(x, -1, w, -1, 8, 5);
            refused(x, -1, -1, w, 8, 5);
            refused(x, w, w, w, 0, 5);
            refused(x, 0, 3, w, 8, 5);
        }
        steps(x, 3, 0, -1, 8, 4);
        x.bar(1, false);
        x.come(3);
        steps(x, 1, -1, -1, 8, 0);
    }

    private static void theOrderOfRefusals() {
        CHECK.part("30: 1 ahead of 2, 2 ahead of 5");
        WordTables x = allCome("2 2 back", "a ab! abc b", "a,b,c");
        refused(x, 1, 4, -1, 9, 1);
        refused(x, 1, 4, -1, 8, 1);
        refused(x, 1, -1, 0, 8, 1);
        refused(x, -1, -1, 1, 8, 1);
        refused(x, 1, -1, -1, 9, 2);
        refused(x, 1, 2, -1, -1, 2);
        refused(x, 1, 2, -1, 0, 5);
    }

    private static void refusedCallsChangeNothing() {
        CHECK.part("30: a question, refused or not");
        Look.Deed before = x -> {
            Check.tell(x, Told.text("2 2 back", "a ab! abc b", "a,b,c", "likely a 1", "seen a"));
            x.night(2);
            x.mark();
            x.come(2);
        };
        CHECK.changesNothing("steps(4, -1, -1, 8)", before, 1, x -> x.steps(4, -1, -1, 8));
        CHECK.changesNothing("steps(0, -1, -1, 9)", before, 2, x -> x.steps(0, -1, -1, 9));
        CHECK.changesNothing("steps(1, -1, -1, 8)", before, 5, x -> x.steps(1, -1, -1, 8));
        CHECK.changesNothing("steps(3, 0, -1, 8)", before, 0, x -> x.steps(3, 0, -1, 8));
        CHECK.changesNothing("steps(0, 0, -1, 8)", before, 0, x -> x.steps(0, 0, -1, 8));
    }
}
