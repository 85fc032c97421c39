import java.util.NoSuchElementException;

/** Answers that are due, and how many were others; texts told to an object as it is fed. */
final class Check {
    private int wrong;
    private String part = "";

    void part(String name) {
        part = name;
    }

    void due(String call, long got, long want) {
        if (got != want) {
            wrong++;
            System.out.println(part + ": " + call + " answered " + got + ", due is " + want);
        }
    }

    void due(String call, boolean got, boolean want) {
        due(call, got ? 1 : 0, want ? 1 : 0);
    }

    /** A call that is refused: its answer, and the number of the refusal. */
    void refused(WordTables x, String call, long got, int number) {
        due(call, got, -1);
        due(call + ", trouble", x.trouble(), number);
    }

    void denied(WordTables x, String call, boolean got, int number) {
        due(call, got, false);
        due(call + ", trouble", x.trouble(), number);
    }

    /** A call that isn't refused: its answer, and no trouble. */
    void granted(WordTables x, String call, long got, long want) {
        due(call, got, want);
        due(call + ", trouble", x.trouble(), 0);
    }

    void allowed(WordTables x, String call, boolean got) {
        due(call, got, true);
        due(call + ", trouble", x.trouble(), 0);
    }

    void due(String call, String got, String want) {
        if (!got.equals(want)) {
            wrong++;
            System.out.println(part + ": " + call + " left " + got + ", due is " + want);
        }
    }

    /** A call that is refused by a number leaves the inn, the night and the marks as they were. */
    void changesNothing(String call, Look.Deed before, int number, Look.Deed refused) {
        WordTables touched = new WordTables();
        WordTables untouched = new WordTables();
        before.on(touched);
        before.on(untouched);
        refused.on(touched);
        due(call + ", trouble", touched.trouble(), number);
        due(call, Look.atInn(touched), Look.atInn(untouched));
    }

    void ledNone(WordTables x, int i) {
        boolean thrown = false;
        try {
            x.led(i);
        } catch (NoSuchElementException none) {
            thrown = true;
        }
        due("led(" + i + ") throws", thrown, true);
    }

    static void feed(WordTables x, String text) {
        for (int[] f : Texts.fives(text)) {
            x.feed(f[0], f[1], f[2], f[3], f[4]);
        }
    }

    static int tell(WordTables x, String text) {
        feed(x, text);
        return x.inn(text.length());
    }

    /** A new object with an inn. */
    static WordTables inn(String text) {
        WordTables x = new WordTables();
        if (tell(x, text) < 1) {
            throw new IllegalStateException("fault " + x.fault() + " at " + x.where() + ": " + text);
        }
        return x;
    }

    void end() {
        System.out.println(wrong == 0 ? "all answers are as due" : wrong + " answers are not as due");
        if (wrong != 0) {
            System.exit(1);
        }
    }
}
