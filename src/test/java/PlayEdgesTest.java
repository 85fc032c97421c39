/** Terms III and promises 33 to 37, sentence by sentence: hope, the game, marks. */
public final class PlayEdgesTest {
    private static final Check CHECK = new Check();
    private static final int LOW = Integer.MIN_VALUE;
    private static final int HIGH = Integer.MAX_VALUE;

    public static void main(String[] args) {
        hopeOfOneToFour();
        hopeByWeights();
        hopeInLowestTerms();
        hopeOfNothing();
        hopeOfAll();
        hopeFromTablesAsTheyAre();
        hopeEachSeatedOrLeft();
        hopeByTheBestWord();
        hopeByTheBestTable();
        hopeOfTheLargest();
        hopeRefused();
        gameOfTablesThatAreThere();
        gameByBits();
        gameOfThisNight();
        moveIfThereIsNone();
        moveTheFirstWay();
        moveByAnyLetter();
        moveOfTheLastTableAndWord();
        gameRefused();
        marksUpToThree();
        markRefused();
        eachKeepsTheNight();
        allMarksStay();
        marksStayByANight();
        marksGoneByActs();
        marksGoneByAnInn();
        marksStayByRefusedActs();
        backRefused();
        refusedCallsChangeNothing();
        CHECK.end();
    }

    // ---- 33: hope

    private static void hope(WordTables x, int k, long upper, long lower) {
        CHECK.granted(x, "hope(" + k + ", false)", x.hope(k, false), upper);
        CHECK.granted(x, "hope(" + k + ", true)", x.hope(k, true), lower);
    }

    private static void hopeOfOneToFour() {
        CHECK.part("33: HOPE of k (1 .. 4)");
        // One table, one chair, one of two letters: all but 1 of 2, 4, 8, 16.
        WordTables x = Told.inn("1 1 any", "a", "z", "likely a 1;likely b 1");
        int below = 1;
        for (int k = 1; k <= 4; k++) {
            below *= 2;
            hope(x, k, below - 1, below);
        }
        for (int k : new int[] {0, 5, -1, LOW, HIGH}) {
            CHECK.refused(x, "hope(" + k + ", false)", x.hope(k, false), 2);
            CHECK.refused(x, "hope(" + k + ", true)", x.hope(k, true), 2);
        }
    }

    private static void hopeByWeights() {
        CHECK.part("III: each a likely one by its weight");
        hope(Told.inn("1 1 any", "a", "z", "likely a 1;likely b 9"), 1, 1, 10);
        hope(Told.inn("1 1 any", "b", "z", "likely a 1;likely b 9"), 1, 9, 10);
        hope(Told.inn("1 1 any", "a b", "z", "likely a 1;likely b 9"), 1, 1, 1);
        hope(Told.inn("1 1 any", "b d f", "z", "likely a 1;likely b 2;likely c 3;likely d 4;likely e 5;likely f 6"), 1, 4, 7);
        hope(Told.inn("1 1 any", "a", "z", "likely a 1;likely b 9"), 2, 19, 100);
    }

    private static void hopeInLowestTerms() {
        CHECK.part("33: in lowest terms, the upper WHOLE or the lower");
        hope(Told.inn("1 1 any", "a", "z", "likely a 2;likely b 4"), 1, 1, 3);
        hope(Told.inn("1 1 any", "b", "z", "likely a 2;likely b 4"), 1, 2, 3);
        hope(Told.inn("1 1 any", "a", "z", "likely a 9;likely b 9"), 1, 1, 2);
        hope(Told.inn("1 1 any", "a", "z", "likely a 9;likely b 9"), 2, 3, 4);
        hope(Told.inn("2 1 any", "a", "z", "likely a 1;likely b 1"), 2, 1, 1);
        hope(Told.inn("2 1 any", "a", "z", "likely a 1;likely b 1"), 3, 11, 8);
    }

    private static void hopeOfNothing() {
        CHECK.part("33: 0 in lowest terms");
        String[] words = {"b", "a!", "ab"};
        for (String word : words) {
            WordTables x = Told.inn("3 6 any", word, "z", "likely a 9");
            for (int k = 1; k <= 4; k++) {
                hope(x, k, 0, 1);
            }
        }
    }

    private static void hopeOfAll() {
        CHECK.part("33: a whole number in lowest terms");
        WordTables x = Told.inn("1 3 any", "a aa aaa", "z", "likely a 9");
        int[] due = {1, 2, 3, 3};
        for (int k = 1; k <= 4; k++) {
            hope(x, k, due[k - 1], 1);
        }
        hope(Told.inn("3 1 any", "a", "z", "likely a 1"), 4, 3, 1);
        hope(Told.inn("1 6 any", "a aa aaa aaaa", "z", "likely a 7"), 4, 4, 1);
    }

    private static void hopeFromTablesAsTheyAre() {
        CHECK.part("III: from tables as they are this NIGHT");
        WordTables x = Told.inn("1 2 back", "a ab", "a,b,c", "likely a 1;likely b 2");
        hope(x, 1, 1, 3);
        hope(x, 2, 7, 9);
        x.come(1);
        hope(x, 1, 2, 3);
        hope(x, 2, 8, 9);
        x.come(1);
        for (int k = 1; k <= 4; k++) {
            hope(x, k, 0, 1);
        }
        // Those that are yet to come are not the letters unknown; nor does it matter that all have come.
        x.come(1);
        hope(x, 1, 0, 1);
        x.night(0);
        hope(x, 1, 1, 3);
        x.bar(1, true);
        hope(x, 2, 5, 9);
        x.bar(0, true);
        hope(x, 2, 0, 1);
    }

    private static void hopeEachSeatedOrLeft() {
        CHECK.part("III: each seated, or left, with the next ones unknown");
        // Of four the first one, if an a, is left: 953/729 of the three behind it are more than the a alone.
        WordTables x = Told.inn("1 2 back", "a b bc", "z", "likely a 1;likely b 4;likely c 4");
        hope(x, 1, 5, 9);
        hope(x, 2, 1, 1);
        hope(x, 3, 953, 729);
        hope(x, 4, 10097, 6561);
    }

    private static void hopeByTheBestWord() {
        CHECK.part("III: at most: by whatever WORD");
        // b makes ab or ba of a (behind it ab alone): of ba a c makes more (3 of 8), of ab a d (1 of 8).
        String likely = "likely b 4;likely c 3;likely d 1";
        WordTables x = Told.inn("1 3 back", "a ab ba abd bac", "a", likely);
        x.come(1);
        hope(x, 2, 13, 16);
        x = Told.inn("1 3 any", "a ab ba abd bac", "a", likely);
        x.come(1);
        // b first (1 of 2): 1 and 3/8; else left, then b: 1/2.
        hope(x, 2, 15, 16);
        x.bar(4, true);
        x.come(1);
        hope(x, 2, 13, 16);
    }

    private static void hopeByTheBestTable() {
        CHECK.part("III: at most: at whatever table");
        WordTables x = Told.inn("3 1 any", "a b", "a,aa", "likely a 1;likely b 1");
        hope(x, 1, 1, 1);
        hope(x, 3, 3, 1);
        hope(x, 4, 3, 1);
        x.seat(2, 0);
        hope(x, 2, 2, 1);
        hope(x, 3, 2, 1);
        x.seat(0, 0);
        hope(x, 1, 1, 1);
        hope(x, 2, 1, 1);
        for (int full = 0; full < 3; full++) {
            x.night(0);
            x.seat(full, 0);
            hope(x, 3, 2, 1);
        }
        // A b at the table of a, or at one of its own: a c may follow there.
        x = Told.inn("2 2 back", "a ab b bc", "a", "likely b 1;likely c 1");
        x.seat(1, 0);
        hope(x, 1, 1, 2);
        hope(x, 2, 5, 4);
    }

    private static void hopeOfTheLargest() {
        CHECK.part("33: the largest weights");
        String nines = "likely a 9;likely b 9;likely c 9;likely d 9;likely e 9;likely f ";
        WordTables x = Told.inn("1 1 any", "a", "z", nines + "9");
        hope(x, 4, 671, 1296);
        x = Told.inn("1 1 any", "a", "z", nines + "8");
        // 1 - (44/53)^4.
        hope(x, 4, 7890481L - 44L * 44 * 44 * 44, 7890481L);
        hope(x, 1, 9, 53);
        x = Told.inn("3 2 any", "a ab b c cd d e f", "z", nines + "8");
        hope(x, 3, 3, 1);
    }

    private static void hopeRefused() {
        CHECK.part("33: -1: 1 (no INN); 2; 6 (no likely letters)");
        WordTables x = Told.inn("1 1 any", "a", "z");
        for (int k = 1; k <= 4; k++) {
            CHECK.refused(x, "hope(" + k + ", true), none likely", x.hope(k, true), 6);
            CHECK.refused(x, "hope(" + k + ", false), none likely", x.hope(k, false), 6);
        }
        CHECK.refused(x, "hope(0, true), none likely", x.hope(0, true), 2);
        CHECK.refused(x, "hope(5, true), none likely", x.hope(5, true), 2);
        x = new WordTables();
        for (int k : new int[] {0, 1, 4, 5}) {
            CHECK.refused(x, "hope(" + k + ", true), no INN", x.hope(k, true), 1);
        }
    }

    // ---- 34, 35: the game

    private static void gameOfTablesThatAreThere() {
        CHECK.part("34: GRUNDIES of all tables");
        for (int tables = 1; tables <= 3; tables++) {
            WordTables x = Told.inn(tables + " 6 back", "a", "b");
            CHECK.granted(x, "game, tables " + tables, x.game(), tables % 2);
            x = Told.inn(tables + " 6 back", "ab", "b");
            CHECK.granted(x, "game of none, tables " + tables, x.game(), 0);
        }
    }

    private static void gameByBits() {
        CHECK.part("34: by their bits (a bit if it is in an odd number of them)");
        // c: 0, a: 1, empty: 2, ab: 0.
        WordTables x = Told.inn("3 6 back", "a ab c", "a,c,b");
        CHECK.granted(x, "2, 2, 2", x.game(), 2);
        x.seat(0, 0);
        CHECK.granted(x, "1, 2, 2", x.game(), 1);
        x.seat(1, 2);
        CHECK.granted(x, "1, 0, 2", x.game(), 3);
        x.seat(0, 1);
        CHECK.granted(x, "0, 0, 2", x.game(), 2);
        x = Told.inn("2 6 back", "a ab c", "a,c,b");
        CHECK.granted(x, "2, 2", x.game(), 0);
        x.seat(1, 0);
        CHECK.granted(x, "2, 1", x.game(), 3);
    }

    private static void gameOfThisNight() {
        CHECK.part("34: of this NIGHT");
        WordTables x = Told.inn("1 6 back", "a ab abc", "a,b,c");
        int[] due = {1, 0, 1, 0};
        for (int came = 0; came <= 3; came++) {
            CHECK.granted(x, "game, came " + came, x.game(), due[came]);
            x.come(1);
        }
        x.night(0);
        CHECK.granted(x, "game, a new one", x.game(), 1);
        x.bar(2, true);
        CHECK.granted(x, "game, barred", x.game(), 0);
    }

    private static void moveIfThereIsNone() {
        CHECK.part("35: -2 if there is none");
        CHECK.due("it is lost", Told.inn("2 6 back", "a", "a").move(), -2);
        CHECK.due("nothing can be moved", Told.inn("3 6 back", "ab", "a").move(), -2);
        CHECK.due("it is lost by one table", Told.inn("1 6 back", "a ab", "a").move(), -2);
        WordTables x = Told.inn("1 1 back", "a", "a");
        CHECK.granted(x, "move", x.move(), 0);
        x.come(1);
        CHECK.granted(x, "move, a full table", x.move(), -2);
    }

    private static void moveTheFirstWay() {
        CHECK.part("35: the first way (by tables, WORDS)");
        // All WORDS of one letter are as good: the first table, the first one.
        CHECK.due("the first of all", Told.inn("3 6 back", "a b", "a").move(), 0);
        CHECK.due("the first one that loses", Told.inn("1 6 back", "a ab c", "a").move(), 2);
        CHECK.due("the first one of two that lose", Told.inn("1 6 back", "c a ab d", "a").move(), 0);
        WordTables x = Told.inn("3 6 back", "a ab c", "a,c,b");
        // 1, 2, 2 of a, and two empty ones: ab.
        x.seat(0, 0);
        CHECK.granted(x, "move of the first table", x.move(), 1);
        x.night(0);
        x.seat(1, 0);
        CHECK.granted(x, "move of the second one, the first has none", x.move(), 25);
        x.night(0);
        x.seat(2, 0);
        CHECK.granted(x, "move of the third one", x.move(), 49);
        // 1, 0, 2: from 2 to 1 by a.
        x.night(0);
        x.seat(0, 0);
        x.seat(1, 2);
        CHECK.granted(x, "move to a number that isn't 0", x.move(), 48);
    }

    private static void moveByAnyLetter() {
        CHECK.part("III: a table is made to grow by any letter");
        WordTables x = Told.inn("1 6 back", "z zy", "a,z");
        x.bar(1, true);
        CHECK.granted(x, "move by a letter that none has", x.move(), 0);
        x.come(2);
        CHECK.granted(x, "move, all having come", x.move(), -2);
        x.bar(1, false);
        x.come(2);
        CHECK.granted(x, "move, all having come", x.move(), 1);
    }

    private static void moveOfTheLastTableAndWord() {
        CHECK.part("35: 24 times the table and the WORD");
        StringBuilder words = new StringBuilder("a ab");
        for (int w = 2; w < 23; w++) {
            words.append(" z").append((char) ('a' + w));
        }
        words.append(" x");
        WordTables x = Told.inn("3 6 back", words.toString(), "x,xa,b");
        x.seat(0, 23);
        x.seat(1, 23);
        CHECK.granted(x, "game", x.game(), 2);
        CHECK.granted(x, "move: table 2, WORD 23", x.move(), 71);
        CHECK.granted(x, "grundy(23)", x.grundy(23), 0);
    }

    private static void gameRefused() {
        CHECK.part("34, 35: NONE: 1 (no INN)");
        WordTables x = new WordTables();
        CHECK.refused(x, "game", x.game(), 1);
        CHECK.refused(x, "move", x.move(), 1);
    }

    // ---- 36, 37: marks

    private static void marksUpToThree() {
        CHECK.part("III: MARKS: up to 3");
        WordTables x = Told.inn("1 6 any", "a", "a,b");
        for (int m = 0; m < 3; m++) {
            CHECK.due("marks", x.size(8), m);
            CHECK.granted(x, "mark", x.mark(), m);
        }
        CHECK.due("marks", x.size(8), 3);
        CHECK.refused(x, "a fourth one", x.mark(), 3);
        CHECK.refused(x, "a fifth one", x.mark(), 3);
        CHECK.due("marks", x.size(8), 3);
    }

    private static void markRefused() {
        CHECK.part("36: NONE: 1 (no INN); 3");
        WordTables x = new WordTables();
        for (int i = 0; i < 4; i++) {
            CHECK.refused(x, "mark, no INN", x.mark(), 1);
        }
        CHECK.due("marks", x.size(8), 0);
        Check.tell(x, Told.text("1 6 any", "a", "a"));
        CHECK.granted(x, "mark, an INN", x.mark(), 0);
    }

    private static void night(WordTables x, int host, int came, String tables, int standing) {
        CHECK.due("the HOST", x.size(7), host);
        CHECK.due("came", x.size(6), came);
        CHECK.due("tables", x.table(0) + " " + x.table(1), tables);
        CHECK.granted(x, "standing", x.standing(), standing);
        int sits = came - Integer.bitCount(standing);
        for (int i = 0; i < sits; i++) {
            CHECK.due("led(" + i + ") stands", standing >> x.led(i) & 1, 0);
        }
        CHECK.ledNone(x, sits);
    }

    /** Marks of an empty night, of one in its midst, and of a full one, each by another host. */
    private static WordTables threeMarks() {
        WordTables x = Told.inn("2 6 back", "a ab abc b", "a,b,c");
        x.night(1);
        x.mark();
        x.night(2);
        x.stand();
        x.come(1);
        x.mark();
        x.night(3);
        x.come(3);
        x.mark();
        return x;
    }

    private static void eachKeepsTheNight() {
        CHECK.part("37: the NIGHT is as by a MARK");
        WordTables x = threeMarks();
        x.night(0);
        CHECK.allowed(x, "back(0)", x.back(0));
        night(x, 1, 0, "-2 -2", 0);
        CHECK.allowed(x, "back(1)", x.back(1));
        night(x, 2, 2, "3 -2", 1);
        CHECK.allowed(x, "back(2)", x.back(2));
        night(x, 3, 3, "2 -2", 0);
        CHECK.refused(x, "come(1), all have", x.come(1), 6);
        CHECK.allowed(x, "back(1), again", x.back(1));
        CHECK.granted(x, "come(8), from there on", x.come(8), 1);
        night(x, 2, 3, "3 -2", 5);
        CHECK.allowed(x, "back(1), what came behind it is gone", x.back(1));
        night(x, 2, 2, "3 -2", 1);
    }

    private static void allMarksStay() {
        CHECK.part("37: (all MARKS stay)");
        WordTables x = threeMarks();
        for (int m = 2; m >= 0; m--) {
            CHECK.allowed(x, "back(" + m + ")", x.back(m));
            CHECK.due("marks", x.size(8), 3);
            CHECK.refused(x, "mark", x.mark(), 3);
        }
        CHECK.allowed(x, "back(2), behind back(0)", x.back(2));
        night(x, 3, 3, "2 -2", 0);
        // A mark behind one that was gone back to.
        x = Told.inn("2 6 back", "a ab abc b", "a,b,c");
        x.mark();
        x.come(1);
        x.mark();
        x.back(0);
        CHECK.granted(x, "mark, of three the last one", x.mark(), 2);
        x.back(1);
        night(x, 0, 1, "0 -2", 0);
        x.back(2);
        night(x, 0, 0, "-2 -2", 0);
    }

    private static void marksStayByANight() {
        CHECK.part("III: MARKS: gone by ACTS, not by a NIGHT, who comes, sits or stands");
        WordTables x = Told.inn("2 6 back", "a ab abc b", "a,b,c");
        x.stand();
        x.mark();
        x.night(2);
        CHECK.due("marks", x.size(8), 1);
        x.come(1);
        x.seat(0, 1);
        x.stand();
        CHECK.due("marks", x.size(8), 1);
        CHECK.allowed(x, "back(0)", x.back(0));
        night(x, 0, 1, "-2 -2", 1);
    }

    private static void noMarks(WordTables x) {
        CHECK.due("marks", x.size(8), 0);
        for (int m = 0; m < 3; m++) {
            CHECK.denied(x, "back(" + m + ")", x.back(m), 1);
        }
        CHECK.granted(x, "mark, from the first one on", x.mark(), 0);
    }

    private static void marksGoneByActs() {
        CHECK.part("III: MARKS: gone by ACTS");
        WordTables x = threeMarks();
        x.rename(2, 25);
        noMarks(x);
        x.bar(0, true);
        noMarks(x);
        x.bar(0, false);
        noMarks(x);
        x.rename(2, 2);
        noMarks(x);
    }

    private static void marksGoneByAnInn() {
        CHECK.part("3: no MARKS");
        WordTables x = threeMarks();
        Check.tell(x, Told.text("1 6 any", "a", "a"));
        noMarks(x);
    }

    private static void marksStayByRefusedActs() {
        CHECK.part("III: MARKS stay if the act is refused");
        WordTables x = threeMarks();
        x.rename(0, 0);
        x.rename(0, 26);
        x.rename(3, 0);
        x.bar(0, false);
        x.bar(4, true);
        x.night(4);
        x.inn(1);
        x.inn(0);
        CHECK.due("marks", x.size(8), 3);
        x.back(1);
        night(x, 2, 2, "3 -2", 1);
    }

    private static void backRefused() {
        CHECK.part("37: false: 1");
        WordTables x = new WordTables();
        CHECK.denied(x, "back(0), no INN", x.back(0), 1);
        Check.tell(x, Told.text("1 6 any", "a", "a"));
        for (int marks = 0; marks <= 3; marks++) {
            for (int m : new int[] {-1, marks, 3, LOW, HIGH}) {
                CHECK.denied(x, "back(" + m + "), marks " + marks, x.back(m), 1);
            }
            if (marks > 0) {
                CHECK.allowed(x, "back(" + (marks - 1) + ")", x.back(marks - 1));
            }
            x.mark();
        }
    }

    private static void refusedCallsChangeNothing() {
        CHECK.part("33 to 37: a refused call");
        Look.Deed midst = x -> {
            Check.tell(x, Told.text("2 6 back", "a ab abc b", "a,b,c", "likely a 1", "seen a"));
            x.night(1);
            x.mark();
            x.come(2);
            x.mark();
            x.stand();
        };
        Look.Deed full = x -> {
            midst.on(x);
            x.mark();
            x.night(2);
            x.come(1);
        };
        CHECK.changesNothing("back(2)", midst, 1, x -> x.back(2));
        CHECK.changesNothing("back(-1)", midst, 1, x -> x.back(-1));
        CHECK.changesNothing("back(3)", full, 1, x -> x.back(3));
        CHECK.changesNothing("mark", full, 3, x -> x.mark());
        CHECK.changesNothing("hope(5, true)", midst, 2, x -> x.hope(5, true));
        CHECK.changesNothing("hope(4, true)", midst, 0, x -> x.hope(4, true));
        CHECK.changesNothing("move", midst, 0, x -> x.move());
    }
}
