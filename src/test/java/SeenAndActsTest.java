/** Promises 38 to 46: an evening seen, acts, and what is seen of an inn. */
public final class SeenAndActsTest {
    private static final Check CHECK = new Check();
    private static final String WORDS = "inn tables 2 chairs 5 grows any;word an worth 1;word ban worth 4;word bean worth 2;word a worth 1;"
        + "word banjos worth 1;";

    public static void main(String[] args) {
        wrongOnes();
        rows();
        renaming();
        barring();
        guestsAndSizes();
        troubles();
        CHECK.end();
    }

    private static WordTables seen(String words, String guests) {
        return Check.inn(WORDS + "guest " + guests + (words.isEmpty() ? "" : ";seen " + words));
    }

    private static void wrongOnes() {
        CHECK.part("38");
        CHECK.due("all right", seen("an,ban,bean", "al").wrong(), -2);
        CHECK.due("one word", seen("bean", "al").wrong(), -2);
        CHECK.due("not grown", seen("an,bean", "al").wrong(), 1);
        CHECK.due("by two letters", seen("a,an,bean", "al").wrong(), 2);
        CHECK.due("twice", seen("an,an", "al").wrong(), 1);
        CHECK.due("back again", seen("an,a", "al").wrong(), 1);
        CHECK.due("too long for the chairs", seen("banjos,an", "al").wrong(), 0);
        WordTables x = seen("an,ban,bean", "al");
        x.bar(1, true);
        CHECK.granted(x, "one is barred", x.wrong(), 1);
        x.bar(0, true);
        CHECK.granted(x, "the first one, too", x.wrong(), 0);
        WordTables none = seen("", "al");
        CHECK.refused(none, "nothing was seen", none.wrong(), 6);
        WordTables noInn = new WordTables();
        CHECK.refused(noInn, "no inn", noInn.wrong(), 1);
    }

    private static void waysDue(WordTables x, int due, int... of) {
        CHECK.granted(x, "ways", x.ways(), due);
        for (int g = 0; g < of.length; g++) {
            CHECK.granted(x, "waysOf(" + g + ")", x.waysOf(g), of[g]);
        }
        CHECK.refused(x, "waysOf behind the last", x.waysOf(of.length), 1);
        CHECK.refused(x, "waysOf(-1)", x.waysOf(-1), 1);
    }

    private static void rows() {
        CHECK.part("39, 40");
        waysDue(seen("an,ban,bean", "al,nora,bo,eve,tim,ann"), 1, 1, 1, 1, 1, 0, 0);
        waysDue(seen("an,ban,bean", "nia,al,ann,bo,ed"), 2, 2, 1, 1, 2, 2);
        // The first word's letters in any order, the others in theirs.
        waysDue(seen("ban", "bo,al,nia"), 1, 1, 1, 1);
        waysDue(seen("ban", "nia,bo,al"), 1, 1, 1, 1);
        waysDue(seen("an,ban", "bo,al,nia"), 0, 0, 0, 0);
        waysDue(seen("a", "al,bo,ann,abe"), 3, 1, 0, 1, 1);
        waysDue(seen("an,bean", "al,nia,bo,ed"), 0, 0, 0, 0, 0);
        waysDue(seen("bean", "al,nia"), 0, 0, 0);
        // Two of a letter are two guests.
        waysDue(Check.inn("inn tables 1 chairs 6 grows back;word aa worth 1;word aaa worth 1;guest a,aa,aaa,aaaa,b;seen aa,aaa"),
            4, 3, 3, 3, 3, 0);
        WordTables x = seen("an", "al,nia");
        x.rename(1, 25);
        CHECK.granted(x, "renamed", x.ways(), 0);
        WordTables none = seen("", "al");
        CHECK.refused(none, "ways, nothing was seen", none.ways(), 6);
        CHECK.refused(none, "waysOf(0), nothing was seen", none.waysOf(0), 6);
        CHECK.refused(none, "waysOf(1), nothing was seen", none.waysOf(1), 1);
        WordTables noInn = new WordTables();
        CHECK.refused(noInn, "ways, no inn", noInn.ways(), 1);
        CHECK.refused(noInn, "waysOf(0), no inn", noInn.waysOf(0), 1);
    }

    private static void renaming() {
        CHECK.part("41");
        WordTables x = seen("an", "al,nia,bo");
        x.night(2);
        x.come(2);
        x.mark();
        CHECK.denied(x, "rename(3, 0)", x.rename(3, 0), 1);
        CHECK.denied(x, "rename(-1, 26)", x.rename(-1, 26), 1);
        CHECK.denied(x, "rename(0, 26)", x.rename(0, 26), 2);
        CHECK.denied(x, "rename(0, -1)", x.rename(0, -1), 2);
        CHECK.denied(x, "rename(0, 0)", x.rename(0, 0), 5);
        CHECK.due("refused: the night stays", x.size(6), 2);
        CHECK.due("refused: marks stay", x.size(8), 1);
        CHECK.granted(x, "most", x.most(), 3);
        CHECK.granted(x, "able", x.able(), 3);
        CHECK.granted(x, "ever", x.ever(), 3);
        CHECK.granted(x, "wanted", x.wanted(), 0);
        CHECK.granted(x, "gains(e)", x.gains(4), 1);
        CHECK.allowed(x, "rename(1, 25)", x.rename(1, 25));
        CHECK.granted(x, "guest(1)", x.guest(1), 25);
        CHECK.due("the night begins anew", x.size(6), 0);
        CHECK.due("by the same host", x.size(7), 2);
        CHECK.due("no marks", x.size(8), 0);
        CHECK.granted(x, "table(0)", x.table(0), -2);
        CHECK.granted(x, "standing", x.standing(), 0);
        CHECK.granted(x, "most, renamed", x.most(), 1);
        CHECK.granted(x, "able, renamed", x.able(), 1);
        CHECK.granted(x, "ever, renamed", x.ever(), 1);
        CHECK.granted(x, "wanted, renamed", x.wanted(), -2);
        CHECK.granted(x, "gains(n), renamed", x.gains(13), 2);
        CHECK.granted(x, "gains(e), renamed", x.gains(4), 0);
        CHECK.allowed(x, "rename(1, 13)", x.rename(1, 13));
        CHECK.granted(x, "most, as before", x.most(), 3);
    }

    private static void barring() {
        CHECK.part("42");
        WordTables x = Check.inn(WORDS + "guest al,nia,bo;likely a 1;likely n 1");
        x.night(1);
        x.come(2);
        x.mark();
        CHECK.denied(x, "bar(5, true)", x.bar(5, true), 1);
        CHECK.denied(x, "bar(-1, true)", x.bar(-1, true), 1);
        CHECK.denied(x, "bar(0, false)", x.bar(0, false), 5);
        CHECK.due("refused: the night stays", x.size(6), 2);
        CHECK.due("refused: marks stay", x.size(8), 1);
        CHECK.due("hope(1, true)", x.hope(1, true), 2);
        CHECK.due("hope(1, false)", x.hope(1, false), 1);
        CHECK.allowed(x, "bar(0, true)", x.bar(0, true));
        CHECK.granted(x, "word(0, 2)", x.word(0, 2), 1);
        CHECK.granted(x, "word(0, 3)", x.word(0, 3), 0);
        CHECK.due("the night begins anew", x.size(6), 0);
        CHECK.due("by the same host", x.size(7), 1);
        CHECK.due("no marks", x.size(8), 0);
        CHECK.granted(x, "chain(3)", x.chain(3), 0);
        CHECK.granted(x, "rises(1)", x.rises(1), 3);
        CHECK.granted(x, "able", x.able(), 1);
        CHECK.denied(x, "bar(0, true), again", x.bar(0, true), 5);
        x.come(2);
        CHECK.granted(x, "table(0)", x.table(0), 3);
        CHECK.due("hope(2, false): an a at the other table", x.hope(2, false), 3);
        CHECK.due("hope(2, true)", x.hope(2, true), 4);
        CHECK.allowed(x, "bar(0, false)", x.bar(0, false));
        CHECK.granted(x, "chain(3), as before", x.chain(3), 3);
        CHECK.granted(x, "able, as before", x.able(), 3);
        // What is too long stays so, barred or not.
        x.bar(4, true);
        x.bar(4, false);
        CHECK.granted(x, "word(4, 3)", x.word(4, 3), 0);
    }

    private static void guestsAndSizes() {
        CHECK.part("43, 45");
        WordTables x = Check.inn(WORDS + "guest al,zoe,bo;likely a 1;likely n 1;seen a,an,ban");
        CHECK.granted(x, "guest(0)", x.guest(0), 0);
        CHECK.granted(x, "guest(1)", x.guest(1), 25);
        CHECK.granted(x, "guest(2)", x.guest(2), 1);
        CHECK.refused(x, "guest(3)", x.guest(3), 1);
        CHECK.refused(x, "guest(-1)", x.guest(-1), 1);
        x.night(3);
        x.come(2);
        x.mark();
        x.feed(0, 0, 0, 0, 0);
        int[] due = {2, 5, 5, 3, 2, 3, 2, 3, 1, 20};
        for (int what = 0; what < due.length; what++) {
            CHECK.due("size(" + what + ")", x.size(what), due[what]);
        }
        CHECK.due("size(10)", x.size(10), -1);
        CHECK.due("size(-1)", x.size(-1), -1);
        CHECK.due("size has no number", x.trouble(), 0);
        WordTables none = new WordTables();
        CHECK.refused(none, "guest(0), no inn", none.guest(0), 1);
        CHECK.denied(none, "rename(0, 0), no inn", none.rename(0, 0), 1);
        CHECK.denied(none, "bar(0, true), no inn", none.bar(0, true), 1);
    }

    private static void troubles() {
        CHECK.part("46");
        WordTables x = new WordTables();
        CHECK.due("none yet", x.trouble(), 0);
        x.most();
        CHECK.due("no inn", x.trouble(), 1);
        x.feed(1, 1, 1, 1, 1);
        x.size(77);
        x.fault();
        x.where();
        CHECK.ledNone(x, 0);
        CHECK.due("calls without a number leave it", x.trouble(), 1);
        x.inn(77);
        CHECK.due("a number", x.trouble(), 2);
        x.inn(20);
        CHECK.due("a fault", x.trouble(), 4);
        Check.tell(x, WORDS + "guest al,nia");
        CHECK.due("none", x.trouble(), 0);
        x.bar(0, false);
        CHECK.due("not so", x.trouble(), 5);
        x.mark();
        x.mark();
        x.mark();
        CHECK.due("none", x.trouble(), 0);
        x.mark();
        CHECK.due("no room", x.trouble(), 3);
        x.come(8);
        x.come(1);
        CHECK.due("there is none", x.trouble(), 6);
        x.standing();
        CHECK.due("none any more", x.trouble(), 0);
        CHECK.due("asked again", x.trouble(), 0);
    }
}
