import java.util.Random;

/** Promise 30 once more: steps to tables for which there are letters, few of them standing, against the model. */
public final class StepsTest {
    private static final int INNS = 300;
    private static final int CROWDED = 60;
    private static final int GOALS = 40;
    private static final Check CHECK = new Check();
    private static int farthest;
    private static int ways;

    public static void main(String[] args) {
        for (int seed = 1; seed <= INNS; seed++) {
            Random chance = new Random(seed);
            run(new Texts(chance).sound(seed % 5 == 0 ? 24 : 12), chance, 5);
        }
        for (int seed = 1; seed <= CROWDED; seed++) {
            Random chance = new Random(seed);
            run(new Texts(chance).crowded(), chance, 3);
        }
        CHECK.part("enough is tried");
        CHECK.due("ways: " + ways, ways > 1000, true);
        CHECK.due("the farthest: " + farthest, farthest > 11, true);
        CHECK.end();
    }

    private static void run(String text, Random chance, int ups) {
        WordTables x = new WordTables();
        Model model = new Model();
        if (text.length() > 900 || Check.tell(x, text) < 0) {
            return;
        }
        Texts.fives(text).forEach(model::feed);
        model.inn(text.length());
        CHECK.part(text);
        x.night(3);
        model.night(3);
        for (int i = 0; i < GOALS; i++) {
            if (x.size(6) < x.size(3) && i % 5 == 0) {
                x.come(1 + i / 5);
                model.come(1 + i / 5);
            }
            int[] goal = goalWithLetters(model, chance);
            int up = chance.nextInt(4) == 0 ? 8 : chance.nextInt(ups);
            int due = model.steps(goal[0], goal[1], goal[2], up);
            CHECK.due("steps(" + goal[0] + ", " + goal[1] + ", " + goal[2] + ", " + up + ")",
                x.steps(goal[0], goal[1], goal[2], up), due);
            farthest = Math.max(farthest, due);
            ways += due > 0 ? 1 : 0;
        }
    }

    /** Words put to tables by chance, as long as guests that have come have the letters. */
    private static int[] goalWithLetters(Model x, Random chance) {
        int[] left = new int[26];
        for (int g = 0; g < x.size(6); g++) {
            left[x.guest(g)]++;
        }
        int[] goal = {-1, -1, -1};
        for (int t = 0; t < x.size(0); t++) {
            for (int tries = 0; tries < 12 && goal[t] < 0; tries++) {
                int w = chance.nextInt(x.size(2));
                if (x.word(w, 3) == 1 && takes(x, w, left)) {
                    goal[t] = w;
                }
            }
        }
        return goal;
    }

    private static boolean takes(Model x, int w, int[] left) {
        int[] then = left.clone();
        for (int i = 0; i < x.word(w, 0); i++) {
            then[x.letter(w, i)]--;
            if (then[x.letter(w, i)] < 0) {
                return false;
            }
        }
        System.arraycopy(then, 0, left, 0, then.length);
        return true;
    }
}
