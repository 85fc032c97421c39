import java.util.NoSuchElementException;

/** All that can be seen of an object, as one line: two of them that were used alike have the same. */
final class Look {
    private final WordTables x;
    private final StringBuilder seen = new StringBuilder();

    private Look(WordTables x) {
        this.x = x;
    }

    /** What is done to a new object, or to one that is there. */
    interface Deed {
        void on(WordTables x);
    }

    /** The inn, the night, and (by going back to them) the marks; the object isn't of use any more behind it. */
    static String atInn(WordTables x) {
        Look look = new Look(x);
        look.inn();
        look.night();
        for (int m = 0; m < 3; m++) {
            look.add("back " + m, x.back(m) ? 1 : 0);
            look.night();
        }
        return look.seen.toString();
    }

    private void add(String name, long answer) {
        seen.append(name).append(' ').append(answer).append("; ");
    }

    private void inn() {
        for (int what = 0; what <= 5; what++) {
            add("size " + what, x.size(what));
        }
        add("marks", x.size(8));
        for (int w = 0; w < 24; w++) {
            add("barred " + w, x.word(w, 2));
        }
        for (int g = 0; g < 8; g++) {
            add("guest " + g, x.guest(g));
        }
        add("most", x.most());
        add("worth", x.worth());
        add("richest", x.richest());
        add("wanted", x.wanted());
        add("ever", x.ever());
        add("able", x.able());
        add("ways", x.ways());
    }

    private void night() {
        add("came", x.size(6));
        add("host", x.size(7));
        for (int t = 0; t < 3; t++) {
            add("table " + t, x.table(t));
        }
        add("standing", x.standing());
        add("can", x.can());
        add("game", x.game());
        add("hope", x.hope(2, false));
        for (int i = 0; i < 8; i++) {
            add("led " + i, ledOrNone(i));
        }
    }

    private int ledOrNone(int i) {
        try {
            return x.led(i);
        } catch (NoSuchElementException none) {
            return -1;
        }
    }
}
