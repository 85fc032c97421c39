/** Promises 6 to 12: words, what they become, chains, ladders, grundies. */
public final class WordsTest {
    private static final Check CHECK = new Check();
    private static final String WORDS = "word a worth 3;word an worth 1;word ban worth 4;word bean worth 2;word t worth 2;"
        + "word at worth 9;word ant worth 5;word banjo worth 9 barred;word planet worth 50;guest al";

    private static WordTables inn(String manner) {
        return Check.inn("inn tables 2 chairs 5 grows " + manner + ";" + WORDS);
    }

    public static void main(String[] args) {
        words();
        letters();
        growing();
        chains();
        ladders();
        grundies();
        CHECK.end();
    }

    private static void words() {
        CHECK.part("6");
        WordTables x = inn("any");
        int[][] due = {{1, 3, 0, 1}, {2, 1, 0, 1}, {3, 4, 0, 1}, {4, 2, 0, 1}, {1, 2, 0, 1}, {2, 9, 0, 1}, {3, 5, 0, 1},
            {5, 9, 1, 0}, {6, 50, 0, 0}};
        for (int w = 0; w < due.length; w++) {
            for (int what = 0; what < 4; what++) {
                CHECK.granted(x, "word(" + w + ", " + what + ")", x.word(w, what), due[w][what]);
            }
        }
        CHECK.refused(x, "word(9, 0)", x.word(9, 0), 1);
        CHECK.refused(x, "word(-1, 0)", x.word(-1, 0), 1);
        CHECK.refused(x, "word(0, 4)", x.word(0, 4), 1);
        CHECK.refused(x, "word(0, -1)", x.word(0, -1), 1);
        CHECK.refused(x, "word(24, 0)", x.word(24, 0), 1);
        WordTables none = new WordTables();
        CHECK.refused(none, "word(0, 0), no inn", none.word(0, 0), 1);
    }

    private static void letters() {
        CHECK.part("7");
        WordTables x = inn("any");
        String planet = "planet";
        for (int i = 0; i < 6; i++) {
            CHECK.granted(x, "letter(8, " + i + ")", x.letter(8, i), planet.charAt(i) - 'a');
        }
        CHECK.refused(x, "letter(8, 6)", x.letter(8, 6), 1);
        CHECK.refused(x, "letter(0, 1)", x.letter(0, 1), 1);
        CHECK.refused(x, "letter(0, -1)", x.letter(0, -1), 1);
        CHECK.refused(x, "letter(9, 0)", x.letter(9, 0), 1);
        CHECK.refused(x, "letter(-1, 0)", x.letter(-1, 0), 1);
    }

    private static void grow(WordTables x, int w, int v, int due) {
        CHECK.granted(x, "grows(" + w + ", " + v + ")", x.grows(w, v), due);
    }

    private static void growing() {
        CHECK.part("8");
        WordTables any = inn("any");
        grow(any, 0, 1, 13);
        grow(any, 1, 2, 1);
        grow(any, 2, 3, 4);
        grow(any, 4, 5, 0);
        grow(any, 5, 6, 13);
        grow(any, 1, 6, 19);
        grow(any, 1, 0, -2);
        grow(any, 0, 0, -2);
        grow(any, 0, 2, -2);
        grow(any, 4, 1, -2);
        WordTables ends = inn("ends");
        grow(ends, 0, 1, 13);
        grow(ends, 1, 2, 1);
        grow(ends, 2, 3, -2);
        grow(ends, 4, 5, 0);
        grow(ends, 5, 6, -2);
        WordTables back = inn("back");
        grow(back, 0, 1, 13);
        grow(back, 1, 2, -2);
        grow(back, 1, 6, 19);
        grow(back, 4, 5, -2);
        CHECK.refused(any, "grows(3, 7)", any.grows(3, 7), 5);
        CHECK.refused(any, "grows(7, 8)", any.grows(7, 8), 5);
        CHECK.refused(any, "grows(8, 0)", any.grows(8, 0), 5);
        CHECK.refused(any, "grows(7, 9)", any.grows(7, 9), 1);
        CHECK.refused(any, "grows(-1, 0)", any.grows(-1, 0), 1);
    }

    private static void chains() {
        CHECK.part("9");
        int[] any = {3, 2, 1, 0, 2, 1, 0};
        int[] back = {2, 1, 0, 0, 0, 0, 0};
        WordTables x = inn("any");
        WordTables y = inn("back");
        for (int w = 0; w < any.length; w++) {
            CHECK.granted(x, "any chain(" + w + ")", x.chain(w), any[w]);
            CHECK.granted(y, "back chain(" + w + ")", y.chain(w), back[w]);
        }
        CHECK.refused(x, "chain(7)", x.chain(7), 5);
        CHECK.refused(x, "chain(8)", x.chain(8), 5);
        CHECK.refused(x, "chain(9)", x.chain(9), 1);
        CHECK.refused(x, "chain(-1)", x.chain(-1), 1);
    }

    private static void ladders() {
        CHECK.part("10, 11");
        WordTables x = inn("any");
        int[] rungs = {3, 2, 1, 0, 5, 4};
        CHECK.granted(x, "ladder(3, 4)", x.ladder(3, 4), 5);
        CHECK.granted(x, "ladder(4, 3)", x.ladder(4, 3), 5);
        for (int i = 0; i < rungs.length; i++) {
            CHECK.granted(x, "rung(3, 4, " + i + ")", x.rung(3, 4, i), rungs[i]);
        }
        // From the beginning on: the first of the words that are as near, not the first seen from the end.
        int[] other = {4, 5, 0, 1, 2, 3};
        for (int i = 0; i < other.length; i++) {
            CHECK.granted(x, "rung(4, 3, " + i + ")", x.rung(4, 3, i), other[i]);
        }
        CHECK.granted(x, "ladder(2, 2)", x.ladder(2, 2), 0);
        CHECK.granted(x, "rung(2, 2, 0)", x.rung(2, 2, 0), 2);
        CHECK.refused(x, "rung(2, 2, 1)", x.rung(2, 2, 1), 1);
        CHECK.refused(x, "rung(3, 4, 6)", x.rung(3, 4, 6), 1);
        CHECK.refused(x, "rung(3, 4, -1)", x.rung(3, 4, -1), 1);
        CHECK.refused(x, "rung(3, 9, 0)", x.rung(3, 9, 0), 1);
        CHECK.refused(x, "rung(3, 7, 0)", x.rung(3, 7, 0), 5);
        CHECK.refused(x, "ladder(3, 7)", x.ladder(3, 7), 5);
        CHECK.refused(x, "ladder(8, 3)", x.ladder(8, 3), 5);
        CHECK.refused(x, "ladder(9, 3)", x.ladder(9, 3), 1);
        CHECK.refused(x, "ladder(3, -1)", x.ladder(3, -1), 1);
        WordTables back = inn("back");
        CHECK.granted(back, "ladder(0, 6)", back.ladder(0, 6), 2);
        // An empty table is no rung: t and a are apart.
        CHECK.granted(back, "ladder(0, 4)", back.ladder(0, 4), -2);
        CHECK.refused(back, "rung(0, 4, 0)", back.rung(0, 4, 0), 6);
        CHECK.refused(back, "rung(0, 4, 1)", back.rung(0, 4, 1), 6);
    }

    private static void grundies() {
        CHECK.part("12");
        WordTables x = inn("any");
        int[] due = {0, 2, 1, 0, 0, 1, 0};
        for (int w = 0; w < due.length; w++) {
            CHECK.granted(x, "grundy(" + w + ")", x.grundy(w), due[w]);
        }
        CHECK.granted(x, "grundy(-1)", x.grundy(-1), 1);
        CHECK.refused(x, "grundy(7)", x.grundy(7), 5);
        CHECK.refused(x, "grundy(8)", x.grundy(8), 5);
        CHECK.refused(x, "grundy(9)", x.grundy(9), 1);
        CHECK.refused(x, "grundy(-2)", x.grundy(-2), 1);
        WordTables none = new WordTables();
        CHECK.refused(none, "grundy(-1), no inn", none.grundy(-1), 1);
    }
}
