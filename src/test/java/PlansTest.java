/** Promises 13 to 20: what all guests at once can make. */
public final class PlansTest {
    private static final Check CHECK = new Check();

    private static WordTables inn(int tables, String words, String guests) {
        return Check.inn("inn tables " + tables + " chairs 4 grows any;" + words + ";guest " + guests);
    }

    public static void main(String[] args) {
        best();
        likeOnes();
        fewestTables();
        lacking();
        gaining();
        noInn();
        CHECK.end();
    }

    private static void plan(WordTables x, int... due) {
        for (int i = 0; i < due.length; i++) {
            CHECK.granted(x, "plan(" + i + ")", x.plan(i), due[i]);
        }
        CHECK.refused(x, "plan behind the last table", x.plan(due.length), 1);
        CHECK.refused(x, "plan(-1)", x.plan(-1), 1);
    }

    private static void best() {
        CHECK.part("13 to 16");
        WordTables x = inn(2, "word a worth 3;word an worth 1;word ban worth 4;word bean worth 2;word at worth 9;word ant worth 5;"
            + "word tab worth 99 barred;word beant worth 98", "al,nora,bo,eve,tim,ann");
        CHECK.granted(x, "most", x.most(), 6);
        CHECK.granted(x, "worth", x.worth(), 11);
        plan(x, 3, 4);
        CHECK.granted(x, "richest", x.richest(), 13);
        // Who has come makes no difference.
        x.come(3);
        CHECK.granted(x, "most, three having come", x.most(), 6);
        WordTables none = inn(3, "word z worth 9", "al");
        CHECK.granted(none, "most of none", none.most(), 0);
        CHECK.granted(none, "worth of none", none.worth(), 0);
        CHECK.granted(none, "richest of none", none.richest(), 0);
        plan(none, -2, -2, -2);
        // One word at all tables.
        WordTables thrice = inn(3, "word a worth 2", "a,aa,aaa,aaaa");
        CHECK.granted(thrice, "most, thrice", thrice.most(), 3);
        CHECK.granted(thrice, "worth, thrice", thrice.worth(), 6);
        plan(thrice, 0, 0, 0);
    }

    private static void likeOnes() {
        CHECK.part("15");
        // As many sit by ab and c, a and bc, a and b and c, abc: more worth wins, then the first numbers, more words first.
        WordTables x = inn(3, "word abc worth 2;word c worth 1;word ab worth 1;word a worth 1;word bc worth 1;word b worth 0",
            "a,b,c");
        plan(x, 0, -2, -2);
        x = inn(3, "word c worth 1;word ab worth 1;word abc worth 2;word a worth 1;word b worth 0", "a,b,c");
        plan(x, 0, 1, -2);
        x = inn(3, "word a worth 1;word bc worth 2;word b worth 1;word c worth 1", "a,b,c");
        plan(x, 0, 1, -2);
        x = inn(3, "word a worth 1;word b worth 1;word bc worth 2;word c worth 1", "a,b,c");
        plan(x, 0, 1, 3);
        x = inn(3, "word a worth 1;word b worth 1;word bc worth 3;word c worth 1", "a,b,c");
        plan(x, 0, 2, -2);
        // More sit, though it is worth less.
        x = inn(1, "word a worth 99;word ab worth 0", "a,b,c");
        plan(x, 1);
        CHECK.granted(x, "worth", x.worth(), 0);
        CHECK.granted(x, "richest", x.richest(), 99);
    }

    private static void fewestTables() {
        CHECK.part("17");
        String words = "word a worth 1;word b worth 1;word c worth 1;word ab worth 0";
        CHECK.due("three letters", inn(3, words, "a,b,c").fewest(), 2);
        CHECK.due("three alike", inn(3, words, "c,cc,ccc").fewest(), 3);
        CHECK.due("one word", inn(3, words, "b,a").fewest(), 1);
        CHECK.due("too few tables", inn(1, words, "a,b,c").fewest(), -2);
        CHECK.due("a letter of no word", inn(3, words, "a,b,d").fewest(), -2);
        WordTables x = inn(3, words, "b,a");
        x.bar(3, true);
        CHECK.granted(x, "the word being barred", x.fewest(), 2);
    }

    private static void wants(WordTables x, String due) {
        CHECK.granted(x, "wanted", x.wanted(), due.length());
        for (int i = 0; i < due.length(); i++) {
            CHECK.granted(x, "wants(" + i + ")", x.wants(i), due.charAt(i) - 'a');
        }
        CHECK.refused(x, "wants behind the last", x.wants(due.length()), 1);
        CHECK.refused(x, "wants(-1)", x.wants(-1), 1);
    }

    private static void lacking() {
        CHECK.part("18, 19");
        String words = "word tea worth 1;word eat worth 9;word tree worth 1;word at worth 1";
        wants(inn(1, words, "ed,ann"), "t");
        wants(inn(1, words, "ed,eve"), "rt");
        // tea and tea as few as tree and at, and ahead of them.
        wants(inn(2, words, "ed,eve,ann"), "att");
        wants(inn(2, words, "ed,ann,tom"), "");
        // Of like ones the first by numbers, whatever they are worth.
        wants(inn(1, "word ab worth 1;word ac worth 9", "a"), "b");
        wants(inn(1, "word ac worth 1;word ab worth 9", "a"), "c");
        wants(inn(2, "word az worth 1;word zb worth 1;word ayb worth 1", "a,b"), "y");
        wants(inn(2, "word zzz worth 1;word ac worth 1;word bz worth 9;word b worth 1;word abd worth 1;word a worth 1", "a,b"), "");
        wants(inn(1, "word aabb worth 1;word abcc worth 1", "a,b"), "ab");
        WordTables x = inn(1, words, "ed,zoe");
        CHECK.granted(x, "wanted, none", x.wanted(), -2);
        CHECK.refused(x, "wants(0), none", x.wants(0), 6);
        CHECK.refused(x, "wants(5), none", x.wants(5), 6);
        x = inn(1, words, "ed,eve,ann");
        CHECK.granted(x, "wanted, too few tables", x.wanted(), -2);
        x = inn(1, words, "rob");
        x.bar(2, true);
        CHECK.granted(x, "wanted, the word being barred", x.wanted(), -2);
    }

    private static void gaining() {
        CHECK.part("20");
        WordTables x = inn(1, "word tree worth 1;word at worth 1", "tim,rob,ed");
        CHECK.granted(x, "gains(e)", x.gains(4), 4);
        CHECK.granted(x, "gains(a)", x.gains(0), 2);
        CHECK.granted(x, "gains(z)", x.gains(25), 0);
        CHECK.refused(x, "gains(26)", x.gains(26), 2);
        CHECK.refused(x, "gains(-1)", x.gains(-1), 2);
        x.rename(1, 0);
        CHECK.granted(x, "gains(e), renamed", x.gains(4), 0);
        CHECK.granted(x, "gains(a), renamed", x.gains(0), 0);
        // Nine guests then.
        x = inn(3, "word abc worth 1", "a,b,c,aa,bb,cc,aaa,bbb");
        CHECK.granted(x, "gains(c), a ninth", x.gains(2), 3);
        CHECK.granted(x, "most stays", x.most(), 6);
    }

    private static void noInn() {
        CHECK.part("13 to 20, no inn");
        WordTables x = new WordTables();
        CHECK.refused(x, "most", x.most(), 1);
        CHECK.refused(x, "worth", x.worth(), 1);
        CHECK.refused(x, "plan(0)", x.plan(0), 1);
        CHECK.refused(x, "richest", x.richest(), 1);
        CHECK.refused(x, "fewest", x.fewest(), 1);
        CHECK.refused(x, "wanted", x.wanted(), 1);
        CHECK.refused(x, "wants(0)", x.wants(0), 1);
        CHECK.refused(x, "gains(0)", x.gains(0), 1);
        CHECK.refused(x, "gains(26)", x.gains(26), 1);
    }
}
