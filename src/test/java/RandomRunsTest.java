import java.util.ArrayList;
import java.util.List;
import java.util.NoSuchElementException;
import java.util.Random;

/** Runs of calls by chance (of fixed seeds), each answer held against the model's, with trouble and all sizes. */
public final class RandomRunsTest {
    private static final int RUNS = 400;
    private static final int CALLS = 500;

    private final Random chance;
    private final Texts texts;
    private final WordTables real = new WordTables();
    private final Model model = new Model();
    private final List<String> told = new ArrayList<>();
    private final int mostWords;

    private RandomRunsTest(long seed, int mostWords) {
        chance = new Random(seed);
        texts = new Texts(chance);
        this.mostWords = mostWords;
    }

    public static void main(String[] args) {
        int runs = args.length > 0 ? Integer.parseInt(args[0]) : RUNS;
        long from = args.length > 1 ? Long.parseLong(args[1]) : 1;
        for (long seed = from; seed < from + runs; seed++) {
            String wrong = new RandomRunsTest(seed, seed % 10 == 0 ? 24 : seed % 3 == 0 ? 14 : 8).run();
            if (wrong != null) {
                System.out.println("seed " + seed + ": " + wrong);
                System.exit(1);
            }
        }
        System.out.println(runs + " runs are as the model's");
    }

    private String run() {
        int calls = 0;
        while (calls < CALLS) {
            if (calls == 0 && chance.nextInt(3) > 0 || chance.nextInt(60) == 0) {
                String text = texts.sound(mostWords);
                text = text.length() > 900 ? text.substring(0, 900) : text;
                calls += feedAll(chance.nextInt(4) == 0 ? texts.spoiled(text) : text);
            } else {
                oneCall();
                calls++;
            }
            String wrong = difference();
            if (wrong != null) {
                return wrong;
            }
        }
        return null;
    }

    private long got;
    private long due;

    private int feedAll(String text) {
        // What was on the tape stands ahead of the text, so it is made empty first.
        told.clear();
        note("inn(" + real.size(9) + ")", real.inn(real.size(9)), model.inn(model.size(9)));
        int calls = 1;
        for (int[] f : Texts.fives(text)) {
            note("feed", real.feed(f[0], f[1], f[2], f[3], f[4]), model.feed(f));
            calls++;
        }
        note("inn of " + text, real.inn(text.length()), model.inn(text.length()));
        return calls + 1;
    }

    private void note(String call, long got, long due) {
        told.add(call + " = " + got);
        if (this.got == this.due) {
            this.got = got;
            this.due = due;
        }
    }

    private void note(String call, boolean got, boolean due) {
        note(call, got ? 1 : 0, due ? 1 : 0);
    }

    private String difference() {
        String last = told.get(told.size() - 1);
        if (got != due) {
            return last + ", the model " + due + ", behind " + told;
        }
        for (int what = -1; what <= 10; what++) {
            if (real.size(what) != model.size(what)) {
                return last + ": size(" + what + ") = " + real.size(what) + ", the model " + model.size(what) + ", behind " + told;
            }
        }
        if (real.trouble() != model.trouble() || real.fault() != model.fault() || real.where() != model.where()) {
            return last + ": trouble " + real.trouble() + ", the model " + model.trouble() + ", fault " + real.fault() + " at "
                + real.where() + ", the model " + model.fault() + " at " + model.where() + ", behind " + told;
        }
        return null;
    }

    /** A number near what there is, now and then far off. */
    private int some(int count) {
        return switch (chance.nextInt(30)) {
            case 0 -> -1;
            case 1 -> count;
            case 2 -> new int[] {-2, Integer.MIN_VALUE, Integer.MAX_VALUE, 24, 25, 99}[chance.nextInt(6)];
            default -> count > 0 ? chance.nextInt(count) : 0;
        };
    }

    private int someWord() {
        return some(real.size(2));
    }

    private int wordOrNone() {
        return chance.nextInt(3) == 0 ? -1 : someWord();
    }

    private void oneCall() {
        int a = someWord();
        int b = someWord();
        switch (chance.nextInt(44)) {
            case 0 -> note("word " + a, real.word(a, some4(b)), model.word(a, some4(b)));
            case 1 -> note("letter", real.letter(a, b % 7), model.letter(a, b % 7));
            case 2 -> note("grows " + a + " " + b, real.grows(a, b), model.grows(a, b));
            case 3 -> note("chain " + a, real.chain(a), model.chain(a));
            case 4 -> note("ladder " + a + " " + b, real.ladder(a, b), model.ladder(a, b));
            case 5 -> rungCall(a, b, some(4));
            case 6 -> note("grundy " + a, real.grundy(a), model.grundy(a));
            case 7 -> note("most", real.most(), model.most());
            case 8 -> note("worth", real.worth(), model.worth());
            case 9 -> planCall(some(3));
            case 10 -> note("richest", real.richest(), model.richest());
            case 11 -> note("fewest", real.fewest(), model.fewest());
            case 12 -> note("wanted", real.wanted(), model.wanted());
            case 13 -> wantsCall(some(4));
            case 14 -> gainsCall(some(26));
            case 15 -> nightCall(some(4));
            case 16, 17, 18, 19 -> comeCall(chance.nextInt(12) == 0 ? some(9) : 1 + chance.nextInt(2));
            case 20, 21, 22 -> seatCall(some(real.size(0)), a);
            case 23 -> note("stand", real.stand(), model.stand());
            case 24 -> note("can", real.can(), model.can());
            case 25 -> tableCall(some(real.size(0)));
            case 26 -> note("standing", real.standing(), model.standing());
            case 27 -> note("ever", real.ever(), model.ever());
            case 28 -> note("rises " + a, real.rises(a), model.rises(a));
            case 29, 30 -> stepsCall();
            case 31 -> note("able", real.able(), model.able());
            case 32 -> sitsCall(some(4));
            case 33 -> hopeCall(chance.nextInt(9) == 0 ? some(5) : 1 + chance.nextInt(4), chance.nextBoolean());
            case 34 -> note("game", real.game(), model.game());
            case 35 -> note("move", real.move(), model.move());
            case 36 -> note("mark", real.mark(), model.mark());
            case 37 -> backCall(some(3));
            case 38 -> note("wrong", real.wrong(), model.wrong());
            case 39 -> note("ways", real.ways(), model.ways());
            case 40 -> waysOfCall(some(real.size(3)));
            case 41 -> actCall(a);
            case 42 -> guestCall(some(real.size(3)));
            default -> ledCall(some(4));
        }
    }

    private static int some4(int b) {
        return b == Integer.MIN_VALUE ? b : Math.abs(b) % 5;
    }

    private void rungCall(int a, int b, int i) {
        note("rung " + a + " " + b + " " + i, real.rung(a, b, i), model.rung(a, b, i));
    }

    private void planCall(int i) {
        note("plan " + i, real.plan(i), model.plan(i));
    }

    private void wantsCall(int i) {
        note("wants " + i, real.wants(i), model.wants(i));
    }

    private void gainsCall(int letter) {
        int l = chance.nextInt(3) == 0 ? letter : "etaoinsz".charAt(chance.nextInt(8)) - 'a';
        note("gains " + l, real.gains(l), model.gains(l));
    }

    private void nightCall(int host) {
        note("night " + host, real.night(host), model.night(host));
    }

    private void comeCall(int n) {
        note("come " + n, real.come(n), model.come(n));
    }

    private void seatCall(int t, int w) {
        note("seat " + t + " " + w, real.seat(t, w), model.seat(t, w));
    }

    private void tableCall(int t) {
        note("table " + t, real.table(t), model.table(t));
    }

    /** Mostly to tables that a part of the guests could make, so that there is a way now and then. */
    private void stepsCall() {
        int[] to = new int[3];
        for (int t = 0; t < 3; t++) {
            boolean there = t < real.size(0) || chance.nextInt(12) == 0;
            to[t] = !there ? -1 : chance.nextInt(3) == 0 ? Math.max(-1, real.table(t)) : wordOrNone();
            model.table(t);
        }
        int up = chance.nextInt(9) == 0 ? some(9) : chance.nextInt(2) == 0 ? 8 : chance.nextInt(9);
        note("steps " + to[0] + " " + to[1] + " " + to[2] + " " + up, real.steps(to[0], to[1], to[2], up),
            model.steps(to[0], to[1], to[2], up));
    }

    private void sitsCall(int host) {
        note("sits " + host, real.sits(host), model.sits(host));
    }

    private void hopeCall(int k, boolean lower) {
        note("hope " + k + " " + lower, real.hope(k, lower), model.hope(k, lower));
    }

    private void backCall(int m) {
        note("back " + m, real.back(m), model.back(m));
    }

    private void waysOfCall(int g) {
        note("waysOf " + g, real.waysOf(g), model.waysOf(g));
    }

    private void actCall(int w) {
        if (chance.nextBoolean()) {
            boolean is = chance.nextInt(3) == 0;
            note("bar " + w + " " + is, real.bar(w, is), model.bar(w, is));
        } else {
            int g = some(real.size(3));
            int l = chance.nextInt(5) == 0 ? some(26) : "etaoi".charAt(chance.nextInt(5)) - 'a';
            note("rename " + g + " " + l, real.rename(g, l), model.rename(g, l));
        }
    }

    private void guestCall(int g) {
        note("guest " + g, real.guest(g), model.guest(g));
    }

    private void ledCall(int i) {
        note("led " + i, ledOf(i, true), ledOf(i, false));
    }

    private int ledOf(int i, boolean ofReal) {
        try {
            return ofReal ? real.led(i) : model.led(i);
        } catch (NoSuchElementException none) {
            return -77;
        }
    }
}
