/** Promises 1 to 5: a new object, the tape, the text of an inn and its faults. */
public final class InnTest {
    private static final Check CHECK = new Check();
    private static final String INN = "inn tables 1 chairs 6 grows any";
    private static final String SOUND = INN + ";word a worth 1;guest al";

    public static void main(String[] args) {
        aNewObject();
        feeding();
        aSoundInn();
        theTapeAndTheInnThatStay();
        tokens();
        form();
        untold();
        again();
        bounds();
        many();
        lacks();
        theFirstFaultFromTheLeft();
        manySpoiledTexts();
        CHECK.end();
    }

    private static void aNewObject() {
        CHECK.part("1");
        WordTables x = new WordTables();
        for (int what = 0; what <= 9; what++) {
            CHECK.due("size(" + what + ")", x.size(what), 0);
        }
        CHECK.due("fault", x.fault(), 0);
        CHECK.due("where", x.where(), -1);
        CHECK.due("trouble", x.trouble(), 0);
        CHECK.refused(x, "most", x.most(), 1);
        CHECK.due("NONE", WordTables.NONE, -1);
    }

    private static void feeding() {
        CHECK.part("2");
        WordTables x = new WordTables();
        CHECK.refused(x, "inn(1)", x.inn(1), 2);
        for (int i = 1; i <= 45; i++) {
            CHECK.due("feed", x.feed(0, -1, Integer.MIN_VALUE, Integer.MAX_VALUE, 7), 20 * i);
        }
        CHECK.due("feed beyond 900", x.feed(1, 2, 3, 4, 5), -1);
        CHECK.due("size(9)", x.size(9), 900);
        CHECK.due("feed has no number", x.trouble(), 2);
        // The highest byte is the first one: "inn;" has its fault at the fourth.
        x = new WordTables();
        x.feed('i' << 24 | 'n' << 16 | 'n' << 8 | ';', 0, 0, 0, 0);
        x.inn(4);
        CHECK.due("fault", x.fault(), 1);
        CHECK.due("where", x.where(), 3);
        x.feed(0xff000000, 0, 0, 0, 0);
        x.inn(20);
        CHECK.due("a byte of 255", x.fault(), 1);
        CHECK.due("a byte of 255, where", x.where(), 0);
    }

    private static void aSoundInn() {
        CHECK.part("3");
        WordTables x = new WordTables();
        CHECK.granted(x, "inn", Check.tell(x, "guest ann,bob ;guest cy;word ab worth 99 barred;likely z 9;seen ab,ab;"
            + "inn tables 2 chairs 3 grows back"), 3);
        int[] sizes = {2, 3, 1, 3, 1, 2, 0, 0, 0, 0};
        for (int what = 0; what < sizes.length; what++) {
            CHECK.due("size(" + what + ")", x.size(what), sizes[what]);
        }
        CHECK.due("fault", x.fault(), 0);
        CHECK.due("word(0, 1)", x.word(0, 1), 99);
        CHECK.due("word(0, 2)", x.word(0, 2), 1);
        CHECK.due("guest(2)", x.guest(2), 2);
        // A new inn: a night of host 0, no marks, nothing of the one before.
        x.night(3);
        x.mark();
        CHECK.granted(x, "inn", Check.tell(x, SOUND), 1);
        int[] then = {1, 6, 1, 1, 0, 0, 0, 0, 0, 0};
        for (int what = 0; what < then.length; what++) {
            CHECK.due("then size(" + what + ")", x.size(what), then[what]);
        }
        CHECK.due("not barred now", x.word(0, 2), 0);
        // What is behind the first n bytes is no part of it, and gone.
        x = new WordTables();
        Check.feed(x, SOUND + ";;;;");
        CHECK.granted(x, "inn of a part", x.inn(SOUND.length()), 1);
        CHECK.due("size(9)", x.size(9), 0);
        // As many as there is room for.
        StringBuilder full = new StringBuilder("inn tables 3 chairs 6 grows ends");
        for (int i = 0; i < 24; i++) {
            full.append(";word ").append((char) ('a' + i)).append(" worth 0");
        }
        full.append(";guest a,b,c,d,e,f,g,abcdefgh;likely a 1;likely b 1;likely c 1;likely d 1;likely e 1;likely f 9;seen a,a,a,a,a,a");
        CHECK.granted(x, "a full inn", Check.tell(x, full.toString()), 8);
        CHECK.due("24 words", x.size(2), 24);
        CHECK.due("6 likely", x.size(4), 6);
        CHECK.due("6 seen", x.size(5), 6);
    }

    private static void theTapeAndTheInnThatStay() {
        CHECK.part("3, 4, 5");
        WordTables x = Check.inn(SOUND);
        x.come(1);
        Check.feed(x, "inn inn inn");
        CHECK.refused(x, "inn(21)", x.inn(21), 2);
        CHECK.refused(x, "inn(-1)", x.inn(-1), 2);
        CHECK.due("the tape stays", x.size(9), 20);
        CHECK.due("no fault by 2", x.fault(), 0);
        CHECK.due("no place by 2", x.where(), -1);
        CHECK.refused(x, "inn(11)", x.inn(11), 4);
        CHECK.due("fault", x.fault(), 1);
        CHECK.due("where", x.where(), 4);
        CHECK.due("the tape is empty", x.size(9), 0);
        CHECK.due("the inn stays", x.size(3), 1);
        CHECK.due("the night stays", x.size(6), 1);
        CHECK.due("where, behind calls that can't be refused", x.where(), 4);
        CHECK.refused(x, "inn(5)", x.inn(5), 2);
        CHECK.due("the fault of the one not refused by 2", x.fault(), 1);
        CHECK.due("where, the latest being refused by 2", x.where(), -1);
        fault("inn(0)", "", 1, 0);
        x = new WordTables();
        Check.tell(x, "word");
        x.most();
        CHECK.due("where, the latest being another call", x.where(), -1);
        CHECK.due("its fault stays", x.fault(), 1);
        Check.tell(x, SOUND);
        CHECK.due("no fault any more", x.fault(), 0);
        CHECK.due("where", x.where(), -1);
    }

    private static void fault(String call, String text, int number, int place) {
        WordTables x = new WordTables();
        CHECK.refused(x, call, Check.tell(x, text), 4);
        CHECK.due(call + ": fault", x.fault(), number);
        CHECK.due(call + ": where", x.where(), place);
        CHECK.due(call + ": no inn", x.size(0), 0);
    }

    private static void fault(String text, int number, int place) {
        fault(text, text, number, place);
    }

    private static void sound(String text) {
        WordTables x = new WordTables();
        Check.tell(x, text);
        CHECK.due(text + ": fault", x.fault(), 0);
    }

    private static void tokens() {
        CHECK.part("3, tokens");
        sound("  inn  tables 1 chairs 6 grows any ; word a worth 1 ; guest al , bo  ");
        sound("inn tables1chairs6grows any;word a worth1barred;guest al");
        sound("inn tables 003 chairs 006 grows any;word a worth 099;guest al;likely a 009");
        sound(INN + ";word word worth 1;word worth worth 1;word barred worth 1 barred;guest guest,word;seen word");
        sound(INN + ";word a worth 1;guest abcdefgh");
        fault("inn tables 0001", 1, 11);
        fault("guest abcdefghi", 1, 6);
        fault("guest a\tb", 1, 7);
        fault("guest A", 1, 6);
        fault("guest a-b", 1, 7);
        fault("guest a{", 1, 7);
        fault("guest a`", 1, 7);
        fault("word a worth :", 1, 13);
        fault("word a worth /", 1, 13);
        fault("word a worth 1.", 1, 14);
    }

    private static void form() {
        CHECK.part("3, form");
        fault("   ", 1, 3);
        fault(";", 1, 0);
        fault("12", 1, 0);
        fault("house", 1, 0);
        fault("inn", 1, 3);
        fault("inn  ", 1, 5);
        fault("inn table 1", 1, 4);
        fault("inn tables one", 1, 11);
        fault("inn tables 1 chair", 1, 13);
        fault("inn tables 1 chairs ;", 1, 20);
        fault("inn tables 1 chairs 1 grow", 1, 22);
        fault("inn tables 1 chairs 1 grows ahead", 1, 28);
        fault(INN + " twice", 1, 32);
        fault(SOUND + ";", 1, SOUND.length() + 1);
        fault(SOUND + ";;" + SOUND, 1, SOUND.length() + 1);
        fault("word 1", 1, 5);
        fault("word a 1", 1, 7);
        fault("word a worth a", 1, 13);
        fault("word a worth 1 free", 1, 15);
        fault("word a worth 1 barred barred", 1, 22);
        fault("word a worth 1,", 1, 14);
        fault("guest ,", 1, 6);
        fault("guest a b", 1, 8);
        fault("guest a,,b", 1, 8);
        fault("guest a,", 1, 8);
        fault("guest 1", 1, 6);
        fault("likely 1", 1, 7);
        fault("likely a b", 1, 9);
        fault("likely a 1,", 1, 10);
        fault("word a worth 1;seen", 1, 19);
        fault("word a worth 1;seen a a", 1, 22);
        fault("word a worth 1;seen a,", 1, 22);
    }

    private static void untold() {
        CHECK.part("3, untold");
        fault("seen a", 2, 5);
        fault("word a worth 1;seen a,aa", 2, 22);
        fault("word ab worth 1;seen a", 2, 21);
        fault("seen a;word a worth 1", 2, 5);
        fault("word a worth 1;seen abcdefg", 2, 20);
        fault("word a worth 1;seen a,a,a,a,a,a,b", 2, 32);
    }

    private static void again() {
        CHECK.part("3, again");
        fault(INN + ";inn tables 9", 3, 32);
        fault("word a worth 1;word a worth 2", 3, 20);
        fault("word a worth 1;word ab worth 2;word a", 3, 36);
        fault("guest al,bo;guest bo", 3, 18);
        fault("guest al,bo,cy,al", 3, 15);
        sound(SOUND + ",a,b");
        fault("guest a,b,c,d,e,f,g,h,a", 3, 22);
        fault("likely a 1;likely b 1;likely a 1", 3, 29);
        fault("word a worth 1;seen a;seen b", 3, 22);
    }

    private static void bounds() {
        CHECK.part("3, bounds");
        fault("inn tables 0", 4, 11);
        fault("inn tables 4 chairs x", 4, 11);
        fault("inn tables 3 chairs 0", 4, 20);
        fault("inn tables 3 chairs 7", 4, 20);
        fault("word abcdefg", 4, 5);
        fault("word abcdefgh", 4, 5);
        fault("word a worth 100", 4, 13);
        fault("word a worth 999", 4, 13);
        fault("likely ab 1", 4, 7);
        fault("likely a 0", 4, 9);
        fault("likely a 10", 4, 9);
        fault("likely a 1;likely ab 1", 4, 18);
    }

    private static void many() {
        CHECK.part("3, many");
        StringBuilder words = new StringBuilder("word a worth 1");
        for (int i = 1; i < 24; i++) {
            words.append(";word ").append((char) ('a' + i)).append(" worth 1");
        }
        fault(words + ";word", 5, words.length() + 1);
        fault("guest a,b,c,d,e,f,g,h,i", 5, 22);
        fault("guest a,b,c,d;guest e,f,g,h;guest i", 5, 34);
        fault("likely a 1;likely b 1;likely c 1;likely d 1;likely e 1;likely f 1;likely a 1", 5, 66);
        fault("word a worth 1;seen a,a,a,a,a,a,a", 5, 32);
    }

    private static void lacks() {
        CHECK.part("3, lacks");
        fault("word a worth 1;guest al", 6, 23);
        fault(INN + ";guest al", 6, 40);
        fault(INN + ";word a worth 1  ", 6, 48);
        fault("likely a 1", 6, 10);
    }

    private static void theFirstFaultFromTheLeft() {
        CHECK.part("3, the first");
        fault("word a worth 100;seen b;inn inn", 4, 13);
        fault("seen b;word a worth 100", 2, 5);
        fault("guest a,a;likely ab", 3, 8);
        fault("guest a,b,c,d,e,f,g,h,i;guest a", 5, 22);
        fault("word a worth 1;seen b;;", 2, 20);
        fault("guest a;;seen b", 1, 8);
    }

    private static void manySpoiledTexts() {
        CHECK.part("3, spoiled");
        Texts texts = new Texts(new java.util.Random(46));
        int[] met = new int[7];
        for (int i = 0; i < 20000; i++) {
            String text = texts.spoiled(i % 3 == 0 ? texts.sound(24) : texts.sound(5));
            TextModel due = new TextModel(text);
            WordTables x = new WordTables();
            Check.tell(x, text);
            CHECK.due(text + ": fault", x.fault(), due.fault);
            CHECK.due(text + ": where", x.where(), due.place);
            met[due.fault]++;
        }
        for (int fault = 0; fault < met.length; fault++) {
            CHECK.due("fault " + fault + " is met often enough", met[fault] >= 50, true);
        }
    }
}
