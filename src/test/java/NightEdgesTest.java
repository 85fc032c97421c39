/** Terms III and promises 21 to 29, 31, 32, sentence by sentence: hosts, who comes, who sits, who stands, who could. */
public final class NightEdgesTest {
    private static final Check CHECK = new Check();
    private static final int LOW = Integer.MIN_VALUE;
    private static final int HIGH = Integer.MAX_VALUE;
    private static final String EIGHT = "a,b,c,d,e,f,g,h";
    private static final String STAIR = "a ab abc abcd abcde abcdef";
    private static final String LIKELY = "likely a 2;likely b 1";
    // Two tables, three guests; a word that is barred, and one too long for the chairs.
    private static final String SMALL = Told.text("2 2 any", "a ab c! abc b:3", "al,bo,cy", LIKELY, "seen a,ab");

    public static void main(String[] args) {
        aNightBeginsEmpty();
        guestsComeInOrder();
        whoStandsStandsFromThenOn();
        aHostSeatsIfThereIsAnyTable();
        hostFirst();
        hostLong();
        hostDear();
        hostWise();
        hostWiseLeavesOneStanding();
        hostsByNumbers();
        nightRefused();
        comeSoMany();
        comeTillAllHave();
        comeRefused();
        seatAtATable();
        seatByTheNextLetter();
        seatRefused();
        seatRefusedInOrder();
        standOneByOne();
        standRefused();
        canInNoWay();
        canByTablesAndWords();
        canRefused();
        tables();
        standingAsBits();
        ableInAll();
        ableByOrder();
        everInWhateverOrder();
        everOnlyByGrowing();
        rises();
        risesRefused();
        sitsOfNoneAndOfAll();
        sitsThisNightStays();
        sitsRefused();
        noInn();
        refusedCallsChangeNothing();
        questionsChangeNothing();
        CHECK.end();
    }

    private static void due(WordTables x, String tables, int standing) {
        StringBuilder seen = new StringBuilder();
        for (int t = 0; t < x.size(0); t++) {
            seen.append(t == 0 ? "" : " ").append(x.table(t));
        }
        CHECK.due("tables", seen.toString(), tables);
        CHECK.granted(x, "standing", x.standing(), standing);
    }

    /** What the tables are, and who stands, when all have come by a host. */
    private static void byHost(String text, int host, String tables, int standing) {
        WordTables x = Check.inn(text);
        CHECK.allowed(x, "night(" + host + ")", x.night(host));
        CHECK.granted(x, "come(8)", x.come(8), x.size(3));
        due(x, tables, standing);
        CHECK.granted(x, "sits(" + host + ")", x.sits(host), x.size(3) - Integer.bitCount(standing));
    }

    // ---- III: a night

    private static void aNightBeginsEmpty() {
        CHECK.part("III: a NIGHT: all tables empty");
        WordTables x = Told.inn("3 6 any", "a b", "a,b,c");
        for (int host = 0; host < 4; host++) {
            due(x, "-2 -2 -2", 0);
            CHECK.due("came", x.size(6), 0);
            CHECK.ledNone(x, 0);
            CHECK.granted(x, "come(8)", x.come(8), 3);
            due(x, "0 1 -2", 4);
            CHECK.allowed(x, "night(" + host + ")", x.night(host));
        }
        CHECK.due("the HOST", x.size(7), 3);
    }

    private static void guestsComeInOrder() {
        CHECK.part("III: guests come in order");
        WordTables x = Told.inn("3 6 any", "c b a", "a,b,c");
        String[] behind = {"2 -2 -2", "2 1 -2", "2 1 0"};
        for (int g = 0; g < 3; g++) {
            CHECK.granted(x, "come(1)", x.come(1), 1);
            due(x, behind[g], 0);
            CHECK.due("led(" + g + ")", x.led(g), g);
        }
    }

    private static void whoStandsStandsFromThenOn() {
        CHECK.part("III: or stands from then on");
        WordTables x = Told.inn("1 6 back", "a ab abc", "b,a,bo,c");
        CHECK.granted(x, "come(1): nowhere for b", x.come(1), 1);
        CHECK.granted(x, "come(1): a", x.come(1), 1);
        due(x, "0", 1);
        // The next one to come sits, not who stands by the same letter.
        CHECK.granted(x, "come(2)", x.come(2), 2);
        due(x, "2", 1);
        CHECK.due("led(0)", x.led(0), 1);
        CHECK.due("led(1)", x.led(1), 2);
        CHECK.due("led(2)", x.led(2), 3);
    }

    private static void aHostSeatsIfThereIsAnyTable() {
        CHECK.part("III: a HOST seats who comes, if there is any table at which that can be");
        // Worth less, and no chain: still better than to stand.
        for (int host = 0; host < 4; host++) {
            byHost(Told.text("1 6 back", "a:99 ab:0", "a,b"), host, "1", 0);
            byHost(Told.text("3 6 back", "a:0 b:0", "a,b,c,aa"), host, "0 1 0", 4);
            byHost(Told.text("1 1 back", "a ab b!", "a,b,aa"), host, "0", 6);
        }
    }

    private static void hostFirst() {
        CHECK.part("III: 0 FIRST: the first table, the first WORD it can become");
        byHost(Told.text("2 6 any", "ab:0 ba:9 a b:99 bac:1", "a,b"), 0, "0 -2", 0);
        byHost(Told.text("2 6 any", "ba:0 ab:9 a b:99 abc:1", "a,b"), 0, "0 -2", 0);
        // The table is ahead of the word's number.
        byHost(Told.text("2 6 any", "b a ab", "a,b"), 0, "2 -2", 0);
        byHost(Told.text("3 6 any", "a", "a,aa"), 0, "0 0 -2", 0);
    }

    private static void hostLong() {
        CHECK.part("III: 1 LONG: where the WORD it becomes has the longest CHAIN");
        byHost(Told.text("1 6 any", "a ab ba bac", "a,b"), 1, "2", 0);
        byHost(Told.text("2 6 back", "a ab b bc", "a,b"), 1, "0 2", 0);
        byHost(Told.text("2 6 back", "a ab abc abcd b bc", "a,b"), 1, "1 -2", 0);
        // Of like ones the first table, the first word.
        byHost(Told.text("2 6 back", "a ab b bc!", "a,b"), 1, "1 -2", 0);
        byHost(Told.text("1 6 any", "a ba ab", "a,b"), 1, "1", 0);
        byHost(Told.text("1 6 any", "a ba ab abc bac", "a,b"), 1, "1", 0);
        byHost(Told.text("1 6 any", "a ba ab abcd bac!", "a,b"), 1, "1", 0);
        byHost(Told.text("3 6 any", "a", "a,aa"), 1, "0 0 -2", 0);
    }

    private static void hostDear() {
        CHECK.part("III: 2 DEAR: where the WORD's worth less that of the one ahead (0 for none) is most");
        byHost(Told.text("2 6 back", "a:5 ab:7 b:1", "a,b"), 2, "1 -2", 0);
        byHost(Told.text("2 6 back", "a:5 ab:6 b:2", "a,b"), 2, "0 2", 0);
        byHost(Told.text("2 6 back", "a:5 ab:4 b:0", "a,b"), 2, "0 2", 0);
        byHost(Told.text("1 6 any", "a:5 ab:6 ba:7", "a,b"), 2, "2", 0);
        byHost(Told.text("1 6 any", "a:99 ab:0 ba:1", "a,b"), 2, "2", 0);
        // Of like ones the first table, the first word.
        byHost(Told.text("2 6 back", "a:5 ab:6 b:1", "a,b"), 2, "1 -2", 0);
        byHost(Told.text("2 6 back", "b:0 a:5 ab:5", "a,b"), 2, "2 -2", 0);
        byHost(Told.text("1 6 any", "a:5 ba:7 ab:7", "a,b"), 2, "1", 0);
        byHost(Told.text("3 6 any", "a:0", "a,aa"), 2, "0 0 -2", 0);
    }

    private static void hostWise() {
        CHECK.part("III: 3 WISE: where in the end most sit, of all guests who come in their order, known");
        byHost(Told.text("1 6 any", "a ab ba bac", "a,b,c"), 3, "3", 0);
        byHost(Told.text("1 6 any", "a ab ba bac", "a,b,d"), 3, "1", 4);
        // c must come behind b: if it comes ahead of it, nothing is to be had by ba.
        byHost(Told.text("1 6 any", "a ab ba bac", "a,c,b"), 3, "1", 2);
        // The second table, as another one needs the first.
        byHost(Told.text("2 6 back", "a ab b ac", "a,b,c"), 3, "3 2", 0);
        byHost(Told.text("2 6 back", "a ab b bc", "a,b,c"), 3, "0 3", 0);
        byHost(Told.text("3 6 back", "a ab b bc", "a,aa,b,c"), 3, "0 0 3", 0);
        // Of like ones the first table, the first word.
        byHost(Told.text("2 6 back", "b a ab", "a,b"), 3, "2 -2", 0);
        byHost(Told.text("1 6 any", "a ba ab bac abd", "a,b,e"), 3, "1", 4);
        byHost(Told.text("3 6 any", "a", "a,aa"), 3, "0 0 -2", 0);
        // Tables as a hand has filled them are what it goes on from.
        WordTables x = Told.inn("1 6 any", "a ab ba bac", "a,b,c");
        x.night(3);
        x.come(1);
        x.seat(0, 1);
        x.come(1);
        due(x, "1", 4);
    }

    private static void hostWiseLeavesOneStanding() {
        CHECK.part("III: it leaves one standing only if more sit by that");
        String words = "a b bc bcd";
        byHost(Told.text("1 6 back", words, "a,b,c"), 3, "2", 1);
        byHost(Told.text("1 6 back", words, "a,b"), 3, "0", 2);
        byHost(Told.text("1 6 back", words, "a,c,b"), 3, "0", 6);
        byHost(Told.text("2 6 back", words, "a,b,c"), 3, "0 2", 0);
        // Two are left, if two more sit by that than by them; others never leave one.
        byHost(Told.text("1 6 back", "a ae b bc bcd", "a,e,b,c,d"), 3, "4", 3);
        byHost(Told.text("1 6 back", "a ae b bc bcd", "a,e,b,c"), 3, "1", 12);
        for (int host = 0; host < 3; host++) {
            byHost(Told.text("1 6 back", words, "a,b,c"), host, "0", 6);
        }
        // Whichever of three tables it is that waits for two others.
        for (int t = 0; t < 3; t++) {
            WordTables x = Told.inn("3 6 back", "x b y bg bh bhi", "x,b,y,g,h,i");
            x.night(3);
            x.seat((t + 1) % 3, 0);
            x.seat(t, 1);
            x.seat((t + 2) % 3, 2);
            CHECK.granted(x, "come(3)", x.come(3), 3);
            CHECK.granted(x, "table(" + t + ")", x.table(t), 5);
            CHECK.granted(x, "standing", x.standing(), 8);
        }
    }

    // ---- 21: night

    private static void hostsByNumbers() {
        CHECK.part("21: a NIGHT by a HOST: true");
        WordTables x = Check.inn(SMALL);
        for (int host = 0; host < 4; host++) {
            x.come(1);
            CHECK.allowed(x, "night(" + host + ")", x.night(host));
            CHECK.due("the HOST", x.size(7), host);
            CHECK.due("came", x.size(6), 0);
            due(x, "-2 -2", 0);
        }
        CHECK.allowed(x, "night(3), again", x.night(3));
    }

    private static void nightRefused() {
        CHECK.part("21: false: 1 (no INN, HOST)");
        WordTables x = Check.inn(SMALL);
        for (int host : new int[] {-1, 4, LOW, HIGH}) {
            CHECK.denied(x, "night(" + host + ")", x.night(host), 1);
        }
        x = new WordTables();
        for (int host : new int[] {-1, 0, 3, 4}) {
            CHECK.denied(x, "night(" + host + "), no INN", x.night(host), 1);
        }
        CHECK.due("no HOST", x.size(7), 0);
    }

    // ---- 22: come

    private static void comeSoMany() {
        CHECK.part("22: so many guests (1 .. 8) come");
        for (int n = 1; n <= 8; n++) {
            WordTables x = Told.inn("3 6 any", "a b c", EIGHT);
            CHECK.granted(x, "come(" + n + ")", x.come(n), n);
            CHECK.due("came", x.size(6), n);
            int sit = Math.min(n, 3);
            CHECK.granted(x, "standing", x.standing(), (1 << n) - (1 << sit));
            CHECK.ledNone(x, sit);
        }
    }

    private static void comeTillAllHave() {
        CHECK.part("22: till all have: how many came");
        WordTables x = Told.inn("1 6 any", "a", "a,b,c");
        CHECK.granted(x, "come(8), of three", x.come(8), 3);
        x.night(0);
        CHECK.granted(x, "come(2)", x.come(2), 2);
        CHECK.granted(x, "come(2), one is left", x.come(2), 1);
        CHECK.due("came", x.size(6), 3);
        x.night(1);
        CHECK.granted(x, "come(3)", x.come(3), 3);
        CHECK.refused(x, "come(1)", x.come(1), 6);
        x = Told.inn("1 6 any", "a", "z");
        CHECK.granted(x, "come(8), of one, who stands", x.come(8), 1);
        x = Told.inn("3 6 any", "a", EIGHT);
        x.stand();
        CHECK.granted(x, "come(8), of seven", x.come(8), 7);
    }

    private static void comeRefused() {
        CHECK.part("22: NONE: 1 (no INN); 2; 6 (all have)");
        WordTables x = Check.inn(SMALL);
        for (int n : new int[] {0, -1, 9, LOW, HIGH}) {
            CHECK.refused(x, "come(" + n + ")", x.come(n), 2);
            CHECK.due("none came", x.size(6), 0);
        }
        x.come(3);
        for (int n : new int[] {1, 8}) {
            CHECK.refused(x, "come(" + n + "), all have", x.come(n), 6);
        }
        for (int n : new int[] {0, 9}) {
            CHECK.refused(x, "come(" + n + "), all have", x.come(n), 2);
        }
        x = new WordTables();
        for (int n : new int[] {0, 1, 8, 9}) {
            CHECK.refused(x, "come(" + n + "), no INN", x.come(n), 1);
        }
    }

    // ---- 23: seat

    private static void seatAtATable() {
        CHECK.part("23: the next guest sits at a table that becomes a WORD");
        for (int t = 0; t < 3; t++) {
            WordTables x = Told.inn("3 6 any", "a ab", "a,b");
            CHECK.allowed(x, "seat(" + t + ", 0)", x.seat(t, 0));
            CHECK.granted(x, "table(" + t + ")", x.table(t), 0);
            CHECK.due("came", x.size(6), 1);
            CHECK.allowed(x, "seat(" + t + ", 1)", x.seat(t, 1));
            CHECK.granted(x, "table(" + t + ")", x.table(t), 1);
            CHECK.granted(x, "table of another", x.table((t + 1) % 3), -2);
            CHECK.due("led(1)", x.led(1), 1);
        }
        // Full: six at one table, as many chairs as there are.
        WordTables x = Told.inn("1 6 any", "a aa aaa aaaa aaaaa aaaaaa", "a,aa,ab,ac,ad,ae,af");
        for (int w = 0; w < 6; w++) {
            CHECK.allowed(x, "seat(0, " + w + ")", x.seat(0, w));
        }
        CHECK.denied(x, "seat(0, 5), full", x.seat(0, 5), 5);
    }

    private static void seatByTheNextLetter() {
        CHECK.part("23: by the next guest's letter, whatever the HOST");
        WordTables x = Told.inn("1 6 any", "a b ab ba", "b,a");
        x.night(3);
        CHECK.denied(x, "seat(0, 0), not the letter", x.seat(0, 0), 5);
        CHECK.allowed(x, "seat(0, 1)", x.seat(0, 1));
        CHECK.denied(x, "seat(0, 0), from b to a", x.seat(0, 0), 5);
        CHECK.denied(x, "seat(0, 1), as it is", x.seat(0, 1), 5);
        CHECK.allowed(x, "seat(0, 3)", x.seat(0, 3));
        CHECK.due("the HOST stays", x.size(7), 3);
    }

    private static void seatRefused() {
        CHECK.part("23: false: 1 (table, WORD); 6 (all have come); 5 (it can't)");
        WordTables x = Check.inn(SMALL);
        for (int t : new int[] {-1, 2, 3, LOW, HIGH}) {
            CHECK.denied(x, "seat(" + t + ", 0)", x.seat(t, 0), 1);
        }
        for (int w : new int[] {-2, -1, 5, 24, LOW, HIGH}) {
            CHECK.denied(x, "seat(0, " + w + ")", x.seat(0, w), 1);
        }
        for (int w = 1; w <= 4; w++) {
            CHECK.denied(x, "seat(0, " + w + ")", x.seat(0, w), 5);
        }
        CHECK.allowed(x, "seat(1, 0)", x.seat(1, 0));
        CHECK.allowed(x, "seat(1, 1)", x.seat(1, 1));
        CHECK.denied(x, "seat(1, 3), too long for the chairs", x.seat(1, 3), 5);
        CHECK.denied(x, "seat(0, 2), barred", x.seat(0, 2), 5);
        x.stand();
        CHECK.denied(x, "seat(0, 0), all have come", x.seat(0, 0), 6);
    }

    private static void seatRefusedInOrder() {
        CHECK.part("23: 1 ahead of 6, 6 ahead of 5");
        WordTables x = Check.inn(SMALL);
        CHECK.denied(x, "seat(2, 2)", x.seat(2, 2), 1);
        x.come(3);
        CHECK.denied(x, "seat(2, 0), all have come", x.seat(2, 0), 1);
        CHECK.denied(x, "seat(0, 5), all have come", x.seat(0, 5), 1);
        CHECK.denied(x, "seat(0, 2), barred, all have come", x.seat(0, 2), 6);
        CHECK.denied(x, "seat(0, 3), too long, all have come", x.seat(0, 3), 6);
    }

    // ---- 24, 25: stand, can

    private static void standOneByOne() {
        CHECK.part("24: the next guest stands");
        WordTables x = Told.inn("3 6 any", "a b c", EIGHT);
        for (int g = 0; g < 8; g++) {
            CHECK.allowed(x, "stand", x.stand());
            CHECK.granted(x, "standing", x.standing(), (2 << g) - 1);
            CHECK.due("came", x.size(6), g + 1);
        }
        CHECK.denied(x, "stand, all have", x.stand(), 6);
        due(x, "-2 -2 -2", 255);
        CHECK.ledNone(x, 0);
    }

    private static void standRefused() {
        CHECK.part("24: false: 1 (no INN); 6");
        WordTables x = Told.inn("1 6 any", "a", "a");
        CHECK.allowed(x, "stand", x.stand());
        CHECK.denied(x, "stand", x.stand(), 6);
        x.night(0);
        x.come(1);
        CHECK.denied(x, "stand, who sits has come, too", x.stand(), 6);
        x = new WordTables();
        CHECK.denied(x, "stand, no INN", x.stand(), 1);
    }

    private static void canInNoWay() {
        CHECK.part("25: in no way at all");
        CHECK.due("no such letter", Told.inn("3 6 any", "a", "b").can(), 0);
        CHECK.due("barred", Told.inn("3 6 any", "a!", "a").can(), 0);
        CHECK.due("two letters", Told.inn("3 6 any", "aa", "a").can(), 0);
        WordTables x = Told.inn("1 1 any", "a aa", "a,aa");
        x.come(1);
        CHECK.granted(x, "a full table", x.can(), 0);
    }

    private static void canByTablesAndWords() {
        CHECK.part("25: in how many ways (tables, WORDS)");
        for (int tables = 1; tables <= 3; tables++) {
            WordTables x = Told.inn(tables + " 6 any", "a ab ba b bb", "a,aa,ab,b,bb");
            CHECK.granted(x, "can, as many tables", x.can(), tables);
            x.come(tables);
            for (int g = tables; g < 3; g++) {
                x.stand();
            }
            CHECK.granted(x, "can, each table in two ways", x.can(), 2 * tables);
            x.night(0);
            x.come(1);
            x.stand();
            x.stand();
            CHECK.granted(x, "can, one in two ways, the others in one", x.can(), 1 + tables);
        }
    }

    private static void canRefused() {
        CHECK.part("25: NONE: 1 (no INN); 6");
        WordTables x = Told.inn("1 6 any", "a", "a,aa");
        x.come(1);
        CHECK.granted(x, "can, the last one", x.can(), 0);
        x.come(1);
        CHECK.refused(x, "can, all have come", x.can(), 6);
        x.night(0);
        CHECK.granted(x, "can, a new night", x.can(), 1);
        x = new WordTables();
        CHECK.refused(x, "can, no INN", x.can(), 1);
    }

    // ---- 26, 27: tables, who stands

    private static void tables() {
        CHECK.part("26: the WORD at a table; -2 none. NONE: 1");
        for (int tables = 1; tables <= 3; tables++) {
            WordTables x = Told.inn(tables + " 6 any", "z a", "a,z,b");
            for (int t = 0; t < tables; t++) {
                CHECK.granted(x, "table(" + t + "), none", x.table(t), -2);
            }
            x.seat(tables - 1, 1);
            CHECK.granted(x, "the last table", x.table(tables - 1), 1);
            if (tables > 1) {
                x.seat(0, 0);
                CHECK.granted(x, "WORD 0 is one", x.table(0), 0);
            }
            for (int t : new int[] {-1, tables, 3, LOW, HIGH}) {
                CHECK.refused(x, "table(" + t + "), tables " + tables, x.table(t), 1);
            }
        }
    }

    private static void standingAsBits() {
        CHECK.part("27: guests that stand, as bits");
        WordTables x = Told.inn("3 6 any", "a b d", EIGHT);
        CHECK.granted(x, "none has come", x.standing(), 0);
        x.come(2);
        CHECK.granted(x, "none stands", x.standing(), 0);
        x.come(1);
        CHECK.granted(x, "the third one", x.standing(), 4);
        x.come(1);
        CHECK.granted(x, "who hasn't come doesn't stand", x.standing(), 4);
        x.come(4);
        CHECK.granted(x, "the last one, too", x.standing(), 4 + 16 + 32 + 64 + 128);
        x = Told.inn("3 6 any", "a b c d h", "a,b,h,d,e,f,g,c");
        x.stand();
        x.come(7);
        CHECK.granted(x, "the first, but not the last", x.standing(), 1 + 16 + 32 + 64 + 128);
    }

    // ---- 28, 31: who could

    private static void ableInAll() {
        CHECK.part("31: ABLE: the most that can sit in a NIGHT, in all");
        CHECK.due("none", Told.inn("3 6 any", "b", "a").able(), 0);
        CHECK.due("one", Told.inn("3 6 any", "a", "a").able(), 1);
        CHECK.due("as many as tables", Told.inn("2 1 any", "a", "a,aa,ab").able(), 2);
        CHECK.due("all eight", Told.inn("3 3 any", "a ab abc d de def g gh", EIGHT).able(), 8);
        CHECK.due("two words more often", Told.inn("2 4 any", "a ab abc abcd e ef efg efgh", EIGHT).able(), 8);
        WordTables x = Told.inn("1 6 back", "a b bc", "a,b,c");
        CHECK.granted(x, "able", x.able(), 2);
        x.come(3);
        CHECK.granted(x, "able, whoever sits this NIGHT", x.able(), 2);
        x.bar(2, true);
        CHECK.granted(x, "able, barred", x.able(), 1);
        x.rename(0, 1);
        x.bar(2, false);
        x.rename(1, 2);
        CHECK.granted(x, "able, renamed", x.able(), 2);
    }

    private static void ableByOrder() {
        CHECK.part("III: guests come in order: ABLE");
        CHECK.due("in order", Told.inn("1 6 back", "a ab abc", "a,b,c").able(), 3);
        CHECK.due("b too late", Told.inn("1 6 back", "a ab abc", "a,c,b").able(), 2);
        CHECK.due("the other way round", Told.inn("1 6 back", "a ab abc", "c,b,a").able(), 1);
        CHECK.due("no way through a barred one", Told.inn("1 6 back", "a ab! abc", "a,b,c").able(), 1);
        CHECK.due("no way beyond the chairs", Told.inn("1 2 back", "a ab abc", "a,b,c").able(), 2);
    }

    private static int ever(String house, String words, String guests) {
        return Told.inn(house, words, guests).ever();
    }

    private static void everInWhateverOrder() {
        CHECK.part("28: EVER: if guests came in whatever order is best");
        CHECK.due("in order", ever("1 6 back", "a ab abc", "a,b,c"), 3);
        CHECK.due("b too late", ever("1 6 back", "a ab abc", "a,c,b"), 3);
        CHECK.due("the other way round", ever("1 6 back", "a ab abc", "c,b,a"), 3);
        CHECK.due("none", ever("3 6 any", "b", "a"), 0);
        CHECK.due("all eight", ever("2 4 back", "a ab abc abcd e ef efg efgh", "h,g,f,e,d,c,b,a"), 8);
        CHECK.due("one table", ever("1 4 back", "a ab abc abcd e ef efg efgh", "h,g,f,e,d,c,b,a"), 4);
        CHECK.due("a letter is there once", ever("2 6 back", "a ab", "a,b,bb"), 2);
        WordTables x = Told.inn("1 6 back", "a ab abc", "c,b,a");
        x.come(3);
        CHECK.granted(x, "whoever sits this NIGHT", x.ever(), 3);
        x.rename(0, 25);
        CHECK.granted(x, "renamed", x.ever(), 2);
        x.bar(1, true);
        CHECK.granted(x, "barred", x.ever(), 1);
    }

    private static void everOnlyByGrowing() {
        CHECK.part("28: EVER: of WORDS to which a table can grow");
        WordTables x = Told.inn("1 6 back", "a abc b", "a,b,c");
        CHECK.granted(x, "most, all at once", x.most(), 3);
        CHECK.granted(x, "ever", x.ever(), 1);
        CHECK.due("through a barred one", ever("1 6 back", "a ab! abc", "a,b,c"), 1);
        CHECK.due("no WORD of one letter", ever("1 6 any", "ab abc", "a,b,c"), 0);
        CHECK.due("beyond the chairs", ever("1 2 back", "a ab abc", "a,b,c"), 2);
        CHECK.due("by the other letter", ever("1 6 any", "b ab", "a,b"), 2);
        CHECK.due("by the other letter, behind it alone", ever("1 6 back", "b ab", "a,b"), 1);
    }

    // ---- 29: rises

    private static void rises() {
        CHECK.part("29: RISES: the fewest letters of any GOOD WORD (itself, too) from which it can come");
        WordTables x = Told.inn("1 6 back", STAIR, "al");
        for (int barred = 0; barred < 6; barred++) {
            for (int w = barred; w < 6; w++) {
                CHECK.granted(x, "rises(" + w + "), the first ones barred: " + barred, x.rises(w), barred + 1);
            }
            x.bar(barred, true);
        }
        x.bar(0, false);
        x.bar(1, false);
        x.bar(3, false);
        x.bar(5, false);
        CHECK.granted(x, "rises(1), a is good again", x.rises(1), 1);
        CHECK.granted(x, "rises(3), abc is barred", x.rises(3), 4);
        CHECK.granted(x, "rises(5), abcde is barred", x.rises(5), 6);
        // The fewest of several ways.
        x = Told.inn("1 6 any", "abc bc c ac ab", "al");
        int[] due = {1, 1, 1, 1, 2};
        for (int w = 0; w < 5; w++) {
            CHECK.granted(x, "rises(" + w + ")", x.rises(w), due[w]);
        }
    }

    private static void risesRefused() {
        CHECK.part("29: NONE: 1; 5 (it isn't GOOD)");
        WordTables x = Check.inn(SMALL);
        for (int w : new int[] {-1, -2, 5, LOW, HIGH}) {
            CHECK.refused(x, "rises(" + w + ")", x.rises(w), 1);
        }
        CHECK.refused(x, "rises(2), barred", x.rises(2), 5);
        CHECK.refused(x, "rises(3), too long", x.rises(3), 5);
        CHECK.granted(x, "rises(4)", x.rises(4), 1);
    }

    // ---- 32: sits

    private static void sitsOfNoneAndOfAll() {
        CHECK.part("32: how many would sit in a NIGHT by a HOST");
        WordTables none = Told.inn("3 6 any", "b", "a,c,d");
        WordTables all = Told.inn("3 3 any", "a ab abc d de def g gh", EIGHT);
        for (int host = 0; host < 4; host++) {
            CHECK.granted(none, "sits(" + host + ") of none", none.sits(host), 0);
            CHECK.granted(all, "sits(" + host + ") of all", all.sits(host), 8);
        }
        WordTables x = Told.inn("1 6 any", "a:9 ab:8 b:7 ba:9 bac:1 abd:1 abde:1", "a,b,d,e");
        int[] due = {4, 4, 2, 4};
        for (int host = 0; host < 4; host++) {
            CHECK.granted(x, "sits(" + host + ")", x.sits(host), due[host]);
        }
        x.bar(6, true);
        CHECK.granted(x, "sits(3), barred", x.sits(3), 3);
        x.rename(0, 25);
        CHECK.granted(x, "sits(3), renamed", x.sits(3), 1);
    }

    private static void sitsThisNightStays() {
        CHECK.part("32: (this NIGHT stays)");
        WordTables x = Check.inn(SMALL);
        x.night(2);
        x.stand();
        x.come(1);
        for (int host = 0; host < 4; host++) {
            CHECK.granted(x, "sits(" + host + ")", x.sits(host), 2);
            due(x, "4 -2", 1);
            CHECK.due("came", x.size(6), 2);
            CHECK.due("the HOST", x.size(7), 2);
            CHECK.due("led(0)", x.led(0), 1);
        }
    }

    private static void sitsRefused() {
        CHECK.part("32: NONE: 1");
        WordTables x = Check.inn(SMALL);
        for (int host : new int[] {-1, 4, LOW, HIGH}) {
            CHECK.refused(x, "sits(" + host + ")", x.sits(host), 1);
        }
        x = new WordTables();
        for (int host = -1; host <= 4; host++) {
            CHECK.refused(x, "sits(" + host + "), no INN", x.sits(host), 1);
        }
    }

    // ---- all of them

    private static void noInn() {
        CHECK.part("21 to 32: 1, without an INN");
        WordTables x = new WordTables();
        CHECK.denied(x, "night(0)", x.night(0), 1);
        CHECK.refused(x, "come(1)", x.come(1), 1);
        CHECK.denied(x, "seat(0, 0)", x.seat(0, 0), 1);
        CHECK.denied(x, "seat(0, -1)", x.seat(0, -1), 1);
        CHECK.denied(x, "stand", x.stand(), 1);
        CHECK.refused(x, "can", x.can(), 1);
        CHECK.refused(x, "table(0)", x.table(0), 1);
        CHECK.refused(x, "standing", x.standing(), 1);
        CHECK.refused(x, "ever", x.ever(), 1);
        CHECK.refused(x, "rises(0)", x.rises(0), 1);
        CHECK.refused(x, "able", x.able(), 1);
        CHECK.refused(x, "sits(0)", x.sits(0), 1);
        CHECK.due("none came", x.size(6), 0);
    }

    private static void midnight(WordTables x) {
        Check.tell(x, SMALL);
        x.mark();
        x.night(1);
        x.come(1);
        x.mark();
        x.stand();
    }

    private static void allCame(WordTables x) {
        midnight(x);
        x.come(1);
    }

    private static void refusedCallsChangeNothing() {
        CHECK.part("21 to 25: a refused call");
        CHECK.changesNothing("night(-1)", x -> midnight(x), 1, x -> x.night(-1));
        CHECK.changesNothing("night(4)", x -> midnight(x), 1, x -> x.night(4));
        CHECK.changesNothing("come(0)", x -> midnight(x), 2, x -> x.come(0));
        CHECK.changesNothing("come(9)", x -> midnight(x), 2, x -> x.come(9));
        CHECK.changesNothing("come(1), all have", x -> allCame(x), 6, x -> x.come(1));
        CHECK.changesNothing("seat(2, 0)", x -> midnight(x), 1, x -> x.seat(2, 0));
        CHECK.changesNothing("seat(0, 5)", x -> midnight(x), 1, x -> x.seat(0, 5));
        CHECK.changesNothing("seat(1, 0), not the letter", x -> midnight(x), 5, x -> x.seat(1, 0));
        CHECK.changesNothing("seat(1, 2), barred", x -> midnight(x), 5, x -> x.seat(1, 2));
        CHECK.changesNothing("seat(0, 1), all have", x -> allCame(x), 6, x -> x.seat(0, 1));
        CHECK.changesNothing("stand, all have", x -> allCame(x), 6, x -> x.stand());
        CHECK.changesNothing("can, all have", x -> allCame(x), 6, x -> x.can());
        CHECK.changesNothing("table(2)", x -> midnight(x), 1, x -> x.table(2));
        CHECK.changesNothing("rises(2)", x -> midnight(x), 5, x -> x.rises(2));
        CHECK.changesNothing("sits(4)", x -> midnight(x), 1, x -> x.sits(4));
    }

    private static void questionsChangeNothing() {
        CHECK.part("6 to 20, 25 to 35: a question");
        CHECK.changesNothing("all questions", x -> midnight(x), 0, x -> {
            x.grows(0, 1);
            x.ladder(0, 4);
            x.rung(0, 4, 1);
            x.most();
            x.wanted();
            x.gains(0);
            x.can();
            x.table(0);
            x.standing();
            x.ever();
            x.rises(1);
            x.steps(1, -1, -1, 8);
            x.steps(-1, 0, -1, 8);
            x.able();
            x.sits(0);
            x.sits(3);
            x.hope(4, true);
            x.game();
            x.move();
            x.wrong();
            x.ways();
            x.waysOf(0);
        });
    }
}
