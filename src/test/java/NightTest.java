/** Promises 21 to 37: a night, its hosts, steps, hope, the game, marks. */
public final class NightTest {
    private static final Check CHECK = new Check();
    // By the second guest every host but one sits otherwise.
    private static final String HOSTS = "inn tables 2 chairs 3 grows any;word a worth 5;word ab worth 1;word ba worth 20;word bac worth 0;"
        + "word b worth 7;word bab worth 2;guest an,bo,cy";
    private static final String BEAN = "inn tables 2 chairs 5 grows any;word a worth 3;word an worth 1;word ban worth 4;word bean worth 2;"
        + "word t worth 2;word at worth 9;word ant worth 5;word banjo worth 9 barred;guest al,nora,bo,eve,tim,ann;"
        + "likely a 3;likely n 2;likely z 1";
    private static final String PATIENT = "inn tables 1 chairs 3 grows back;word a worth 1;word b worth 1;word bc worth 1;word bcd worth 1;"
        + "guest al,bo,cy,di";

    public static void main(String[] args) {
        hosts();
        comingAndSitting();
        standing();
        ableAndEver();
        rising();
        stepping();
        hoping();
        playing();
        marks();
        noInn();
        CHECK.end();
    }

    private static void tables(WordTables x, int... due) {
        for (int t = 0; t < due.length; t++) {
            CHECK.granted(x, "table(" + t + ")", x.table(t), due[t]);
        }
        CHECK.refused(x, "table behind the last", x.table(due.length), 1);
        CHECK.refused(x, "table(-1)", x.table(-1), 1);
    }

    private static void hosts() {
        CHECK.part("21, 22, 32");
        WordTables x = Check.inn(HOSTS);
        int[][] second = {{1, -2}, {0, 4}, {2, -2}, {2, -2}};
        int[] sitting = {2, 2, 3, 3};
        for (int host = 0; host < 4; host++) {
            CHECK.granted(x, "sits(" + host + ")", x.sits(host), sitting[host]);
            CHECK.allowed(x, "night(" + host + ")", x.night(host));
            CHECK.due("size(7)", x.size(7), host);
            CHECK.granted(x, "come(2)", x.come(2), 2);
            tables(x, second[host]);
            CHECK.granted(x, "sits of all, this night staying", x.sits(0), 2);
            CHECK.due("size(6)", x.size(6), 2);
            CHECK.granted(x, "come(8)", x.come(8), 1);
            CHECK.due("who sits", 3 - Long.bitCount(x.standing()), sitting[host]);
        }
        CHECK.denied(x, "night(4)", x.night(4), 1);
        CHECK.denied(x, "night(-1)", x.night(-1), 1);
        CHECK.due("a night refused leaves all", x.size(6), 3);
        CHECK.refused(x, "sits(4)", x.sits(4), 1);
        CHECK.refused(x, "sits(-1)", x.sits(-1), 1);
        // The wise one leaves the first one standing, as more sit by that; others don't.
        WordTables p = Check.inn(PATIENT);
        int[] patient = {1, 1, 1, 3};
        for (int host = 0; host < 4; host++) {
            CHECK.granted(p, "patient sits(" + host + ")", p.sits(host), patient[host]);
        }
        p.night(3);
        p.come(4);
        CHECK.granted(p, "standing", p.standing(), 1);
        tables(p, 3);
        // If just as many sit, the wise one seats him.
        WordTables even = Check.inn("inn tables 1 chairs 3 grows back;word a worth 1;word b worth 1;guest al,bo");
        even.night(3);
        even.come(1);
        tables(even, 0);
        // Like ones: the first table, the first word.
        WordTables like = Check.inn("inn tables 3 chairs 2 grows any;word ba worth 1;word ab worth 1;word a worth 1;guest a,aa,b");
        for (int host = 0; host < 4; host++) {
            like.night(host);
            like.come(3);
            tables(like, 0, 2, -2);
        }
        // What a table was is taken off: the dear one looks at what is added.
        WordTables dear = Check.inn("inn tables 2 chairs 2 grows back;word a worth 8;word ab worth 9;word b worth 2;guest al,bo");
        dear.night(2);
        dear.come(2);
        tables(dear, 0, 2);
        // A worth less than before is still better than to stand.
        WordTables less = Check.inn("inn tables 1 chairs 2 grows back;word a worth 8;word ab worth 1;guest al,bo");
        CHECK.granted(less, "sits(2)", less.sits(2), 2);
    }

    private static void comingAndSitting() {
        CHECK.part("22 to 26");
        WordTables x = Check.inn(BEAN);
        CHECK.refused(x, "come(0)", x.come(0), 2);
        CHECK.refused(x, "come(9)", x.come(9), 2);
        CHECK.granted(x, "can, an empty inn", x.can(), 2);
        CHECK.denied(x, "seat(2, 0)", x.seat(2, 0), 1);
        CHECK.denied(x, "seat(-1, 0)", x.seat(-1, 0), 1);
        CHECK.denied(x, "seat(0, 8)", x.seat(0, 8), 1);
        CHECK.denied(x, "seat(0, -1)", x.seat(0, -1), 1);
        CHECK.denied(x, "seat(0, 4), not the letter", x.seat(0, 4), 5);
        CHECK.denied(x, "seat(0, 5), not from empty", x.seat(0, 5), 5);
        CHECK.denied(x, "seat(0, 7), barred", x.seat(0, 7), 5);
        CHECK.due("nobody came", x.size(6), 0);
        CHECK.allowed(x, "seat(1, 0)", x.seat(1, 0));
        tables(x, -2, 0);
        CHECK.granted(x, "can, n", x.can(), 1);
        CHECK.granted(x, "come(1)", x.come(1), 1);
        tables(x, -2, 1);
        CHECK.allowed(x, "stand", x.stand());
        CHECK.granted(x, "can, e", x.can(), 0);
        CHECK.granted(x, "come(1), nowhere", x.come(1), 1);
        CHECK.granted(x, "standing", x.standing(), 12);
        CHECK.granted(x, "can, t: to ant, or t", x.can(), 2);
        CHECK.allowed(x, "seat(1, 6)", x.seat(1, 6));
        CHECK.granted(x, "come(8), one is left", x.come(8), 1);
        tables(x, 0, 6);
        CHECK.refused(x, "come(1), all have", x.come(1), 6);
        CHECK.refused(x, "come(9), all have", x.come(9), 2);
        CHECK.refused(x, "can, all have", x.can(), 6);
        CHECK.denied(x, "stand, all have", x.stand(), 6);
        CHECK.denied(x, "seat(0, 1), all have", x.seat(0, 1), 6);
        CHECK.denied(x, "seat(2, 1), all have", x.seat(2, 1), 1);
        CHECK.granted(x, "standing, all", x.standing(), 12);
        // A hand seats where a host would not, and the host goes on from there.
        WordTables w = Check.inn(PATIENT);
        w.night(3);
        CHECK.allowed(w, "seat(0, 0)", w.seat(0, 0));
        CHECK.granted(w, "come(3)", w.come(3), 3);
        CHECK.granted(w, "standing", w.standing(), 14);
    }

    private static void standing() {
        CHECK.part("27, 44");
        WordTables x = Check.inn(BEAN);
        CHECK.granted(x, "standing, nobody", x.standing(), 0);
        CHECK.ledNone(x, 0);
        x.stand();
        CHECK.granted(x, "standing", x.standing(), 1);
        CHECK.ledNone(x, 0);
        x.come(5);
        // n, b, e stand; t sits, a sits with him.
        CHECK.granted(x, "standing", x.standing(), 15);
        CHECK.due("led(0)", x.led(0), 4);
        CHECK.due("led(1)", x.led(1), 5);
        CHECK.ledNone(x, 2);
        CHECK.ledNone(x, -1);
        CHECK.ledNone(x, Integer.MAX_VALUE);
        CHECK.ledNone(x, Integer.MIN_VALUE);
        CHECK.refused(x, "night(9)", x.night(9) ? 0 : -1, 1);
        CHECK.ledNone(x, 7);
        CHECK.due("led has no number", x.trouble(), 1);
    }

    private static void ableAndEver() {
        CHECK.part("28, 31");
        WordTables p = Check.inn(PATIENT);
        CHECK.granted(p, "able", p.able(), 3);
        CHECK.granted(p, "ever", p.ever(), 3);
        p.come(2);
        CHECK.granted(p, "able, in all", p.able(), 3);
        // The order keeps them from it.
        WordTables turned = Check.inn("inn tables 1 chairs 3 grows back;word a worth 1;word ab worth 1;word abc worth 1;guest cy,bo,al");
        CHECK.granted(turned, "able, turned", turned.able(), 1);
        CHECK.granted(turned, "ever, turned", turned.ever(), 3);
        CHECK.granted(turned, "most, turned", turned.most(), 3);
        // A word that nothing grows into sits nobody, in whatever order.
        WordTables apart = Check.inn("inn tables 2 chairs 4 grows any;word tart worth 1;word a worth 1;word at worth 1;"
            + "guest a,t,r,tt");
        CHECK.granted(apart, "most, apart", apart.most(), 4);
        CHECK.granted(apart, "ever, apart", apart.ever(), 2);
        CHECK.granted(apart, "able, apart", apart.able(), 2);
        apart.bar(1, true);
        CHECK.granted(apart, "ever, barred", apart.ever(), 0);
        CHECK.granted(apart, "able, barred", apart.able(), 0);
    }

    private static void rising() {
        CHECK.part("29");
        WordTables x = Check.inn(BEAN);
        int[] due = {1, 1, 1, 1, 1, 1, 1};
        for (int w = 0; w < due.length; w++) {
            CHECK.granted(x, "rises(" + w + ")", x.rises(w), due[w]);
        }
        CHECK.refused(x, "rises(7)", x.rises(7), 5);
        CHECK.refused(x, "rises(8)", x.rises(8), 1);
        CHECK.refused(x, "rises(-1)", x.rises(-1), 1);
        x.bar(0, true);
        x.bar(4, true);
        CHECK.granted(x, "rises(3), a and t being barred", x.rises(3), 2);
        x.bar(1, true);
        CHECK.granted(x, "rises(3), an, too", x.rises(3), 3);
        CHECK.granted(x, "rises(6), from at", x.rises(6), 2);
        x.bar(2, true);
        CHECK.granted(x, "rises(3), itself", x.rises(3), 4);
    }

    private static void stepping() {
        CHECK.part("30");
        WordTables x = Check.inn(BEAN);
        CHECK.granted(x, "nobody has come", x.steps(0, -1, -1, 8), -2);
        CHECK.granted(x, "nothing to do", x.steps(-1, -1, -1, 0), 0);
        x.come(6);
        CHECK.granted(x, "as it is", x.steps(3, 5, -1, 0), 0);
        CHECK.granted(x, "one gets up, none may stand", x.steps(2, 5, -1, 0), -2);
        CHECK.granted(x, "one gets up", x.steps(2, 5, -1, 1), 1);
        CHECK.granted(x, "all get up", x.steps(-1, -1, -1, 6), 6);
        CHECK.granted(x, "all get up, five may stand", x.steps(-1, -1, -1, 5), -2);
        CHECK.granted(x, "n twice", x.steps(2, 6, -1, 8), -2);
        // e, b, n get up, t goes to the other a, and n, b, e sit with the one that is left.
        CHECK.granted(x, "the same, the other way round", x.steps(5, 3, -1, 8), 8);
        CHECK.granted(x, "an, at: e and b get up", x.steps(1, 5, -1, 2), 2);
        CHECK.granted(x, "t moves to the other table", x.steps(6, 0, -1, 3), 4);
        CHECK.granted(x, "the same, but three must stand for a moment", x.steps(6, 0, -1, 2), -2);
        CHECK.refused(x, "steps of a third table", x.steps(3, 5, 0, 8), 1);
        CHECK.refused(x, "no such word", x.steps(8, 5, -1, 8), 1);
        CHECK.refused(x, "no such word", x.steps(3, -2, -1, 8), 1);
        CHECK.refused(x, "up -1", x.steps(3, 5, -1, -1), 2);
        CHECK.refused(x, "up 9", x.steps(3, 5, -1, 9), 2);
        CHECK.refused(x, "up 9, not good", x.steps(7, 5, -1, 9), 2);
        CHECK.refused(x, "up 9, no such word", x.steps(8, 5, -1, 9), 1);
        CHECK.refused(x, "not good", x.steps(7, 5, -1, 8), 5);
        tables(x, 3, 5);
        // Who stands may be more than told if no step is made.
        WordTables y = Check.inn(BEAN);
        y.stand();
        y.stand();
        y.stand();
        CHECK.granted(y, "three stand, no step", y.steps(-1, -1, -1, 0), 0);
        CHECK.granted(y, "three stand, two behind the first step", y.steps(0, -1, -1, 2), 1);
        CHECK.granted(y, "three stand, two behind the first step are too many", y.steps(2, -1, -1, 1), -2);
        CHECK.granted(y, "all sit", y.steps(2, -1, -1, 2), 3);
        CHECK.granted(y, "all sit at the other one", y.steps(-1, 2, -1, 8), 3);
    }

    private static void hopeOf(WordTables x, int k, long upper, long lower) {
        CHECK.due("hope(" + k + ", false)", x.hope(k, false), upper);
        CHECK.due("hope(" + k + ", true)", x.hope(k, true), lower);
        CHECK.due("hope, trouble", x.trouble(), 0);
    }

    private static void hoping() {
        CHECK.part("33");
        WordTables x = Check.inn(BEAN);
        hopeOf(x, 1, 1, 2);
        hopeOf(x, 2, 7, 6);
        x.come(1);
        hopeOf(x, 1, 5, 6);
        CHECK.refused(x, "hope(0)", x.hope(0, true), 2);
        CHECK.refused(x, "hope(5)", x.hope(5, true), 2);
        // Nothing can ever sit: 0 of 1.
        WordTables none = Check.inn("inn tables 1 chairs 1 grows any;word ab worth 1;guest al;likely a 3;likely b 6");
        hopeOf(none, 4, 0, 1);
        // All can: as many as come, till the table is full.
        WordTables all = Check.inn("inn tables 1 chairs 3 grows back;word a worth 1;word aa worth 1;word aaa worth 1;guest al;likely a 7");
        hopeOf(all, 1, 1, 1);
        hopeOf(all, 3, 3, 1);
        hopeOf(all, 4, 3, 1);
        // With the next ones unknown: an a now, though a b and a c may come (each the same weight, one table).
        // k 2: a first: sits (1), then nothing more, or is left for b: 1 of 3; so it sits: 1. b first: 1 + 1/3. c: 1/3 (of b)
        // and 1/3 (of a), left: 2/3. In all: (1 + 4/3 + 2/3) / 3 = 1.
        WordTables next = Check.inn("inn tables 1 chairs 2 grows back;word a worth 1;word b worth 1;word bc worth 1;guest al;"
            + "likely a 1;likely b 1;likely c 1");
        hopeOf(next, 1, 2, 3);
        hopeOf(next, 2, 1, 1);
        CHECK.refused(none, "hope(5), refused by the number first", none.hope(5, true), 2);
        WordTables unlikely = Check.inn(HOSTS);
        CHECK.refused(unlikely, "hope(1), nothing likely", unlikely.hope(1, true), 6);
        CHECK.refused(unlikely, "hope(0), nothing likely", unlikely.hope(0, true), 2);
        // The largest numbers: six letters of weight 9, four of them.
        WordTables large = Check.inn("inn tables 3 chairs 2 grows any;word a worth 1;word ab worth 1;guest al;likely a 9;likely b 9;"
            + "likely c 9;likely d 9;likely e 9;likely f 8");
        CHECK.due("hope(1, true)", large.hope(1, true), 53);
        CHECK.due("hope(4, true)", large.hope(4, true), 7890481);
    }

    private static void playing() {
        CHECK.part("34, 35");
        WordTables x = Check.inn(BEAN);
        // Two empty tables: 1 and 1.
        CHECK.granted(x, "game", x.game(), 0);
        CHECK.granted(x, "move", x.move(), -2);
        x.come(1);
        // a (0) and an empty one (1): a becomes at (1), ahead of the other one's becoming a (0).
        CHECK.granted(x, "game", x.game(), 1);
        CHECK.granted(x, "move", x.move(), 5);
        x.come(1);
        // an (2), empty (1): an becomes ban (1).
        CHECK.granted(x, "game", x.game(), 3);
        CHECK.granted(x, "move", x.move(), 2);
        x.come(2);
        // bean (0), empty (1).
        CHECK.granted(x, "game", x.game(), 1);
        CHECK.granted(x, "move", x.move(), 24);
        x.come(2);
        // bean (0), at (1): ant.
        CHECK.granted(x, "game", x.game(), 1);
        CHECK.granted(x, "move", x.move(), 30);
        WordTables one = Check.inn("inn tables 1 chairs 1 grows any;word b worth 1 barred;word ab worth 1;guest al");
        CHECK.granted(one, "game of none", one.game(), 0);
        CHECK.granted(one, "move of none", one.move(), -2);
        one.bar(0, false);
        CHECK.granted(one, "game of one", one.game(), 1);
        CHECK.granted(one, "move of one", one.move(), 0);
    }

    private static void marks() {
        CHECK.part("36, 37");
        WordTables x = Check.inn(BEAN);
        CHECK.denied(x, "back(0)", x.back(0), 1);
        x.night(2);
        x.stand();
        x.come(4);
        CHECK.granted(x, "mark", x.mark(), 0);
        int bits = x.standing();
        int first = x.table(0);
        x.night(1);
        CHECK.due("marks stay by a night", x.size(8), 1);
        CHECK.granted(x, "mark", x.mark(), 1);
        CHECK.granted(x, "mark", x.mark(), 2);
        CHECK.refused(x, "mark", x.mark(), 3);
        CHECK.due("three marks", x.size(8), 3);
        CHECK.denied(x, "back(3)", x.back(3), 1);
        CHECK.denied(x, "back(-1)", x.back(-1), 1);
        CHECK.allowed(x, "back(0)", x.back(0));
        CHECK.due("as many have come", x.size(6), 5);
        CHECK.due("the host", x.size(7), 2);
        CHECK.granted(x, "standing", x.standing(), bits);
        CHECK.granted(x, "table(0)", x.table(0), first);
        CHECK.due("all marks stay", x.size(8), 3);
        CHECK.allowed(x, "back(2)", x.back(2));
        CHECK.due("nobody has come", x.size(6), 0);
        CHECK.due("the host", x.size(7), 1);
        x.come(3);
        CHECK.allowed(x, "back(0)", x.back(0));
        CHECK.due("a mark is as it was", x.size(6), 5);
        x.rename(0, 25);
        CHECK.due("gone by an act", x.size(8), 0);
        CHECK.denied(x, "back(0), gone", x.back(0), 1);
        CHECK.granted(x, "mark, from the first on", x.mark(), 0);
    }

    private static void noInn() {
        CHECK.part("21 to 37, no inn");
        WordTables x = new WordTables();
        CHECK.denied(x, "night(0)", x.night(0), 1);
        CHECK.refused(x, "come(9)", x.come(9), 1);
        CHECK.denied(x, "seat(0, 0)", x.seat(0, 0), 1);
        CHECK.denied(x, "stand", x.stand(), 1);
        CHECK.refused(x, "can", x.can(), 1);
        CHECK.refused(x, "table(0)", x.table(0), 1);
        CHECK.refused(x, "standing", x.standing(), 1);
        CHECK.refused(x, "ever", x.ever(), 1);
        CHECK.refused(x, "rises(0)", x.rises(0), 1);
        CHECK.refused(x, "steps", x.steps(-1, -1, -1, 9), 1);
        CHECK.refused(x, "able", x.able(), 1);
        CHECK.refused(x, "sits(0)", x.sits(0), 1);
        CHECK.refused(x, "hope(9)", x.hope(9, true), 1);
        CHECK.refused(x, "game", x.game(), 1);
        CHECK.refused(x, "move", x.move(), 1);
        CHECK.refused(x, "mark", x.mark(), 1);
        CHECK.denied(x, "back(0)", x.back(0), 1);
    }
}
