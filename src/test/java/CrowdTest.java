import java.util.Random;

/** Promises 21, 22, 31 to 33 once more: three tables that fill up, of 24 words, against the model. */
public final class CrowdTest {
    private static final int INNS = 25;
    private static final Check CHECK = new Check();

    public static void main(String[] args) {
        for (int seed = 1; seed <= INNS; seed++) {
            Random chance = new Random(seed);
            run(new Texts(chance).crowded(), chance);
        }
        CHECK.end();
    }

    private static void run(String text, Random chance) {
        WordTables x = Check.inn(text);
        Model model = new Model();
        Texts.fives(text).forEach(model::feed);
        model.inn(text.length());
        CHECK.part(text);
        for (int host = 3; host >= 0; host--) {
            aNight(x, model, host);
        }
        // What was found out by the words that were good and the letters that were there is none of what is to be found now.
        int w = chance.nextInt(24);
        x.bar(w, true);
        model.bar(w, true);
        aNight(x, model, 3);
        x.rename(0, 3);
        model.rename(0, 3);
        aNight(x, model, 3);
    }

    private static void aNight(WordTables x, Model model, int host) {
        CHECK.due("able", x.able(), model.able());
        CHECK.due("sits(" + host + ")", x.sits(host), model.sits(host));
        x.night(host);
        model.night(host);
        for (int came = 0; came < x.size(3); came++) {
            for (int k = 4; k >= 1; k--) {
                CHECK.due("hope(" + k + ", false), came " + came, x.hope(k, false), model.hope(k, false));
                CHECK.due("hope(" + k + ", true), came " + came, x.hope(k, true), model.hope(k, true));
            }
            x.come(1);
            model.come(1);
            for (int t = 0; t < 3; t++) {
                CHECK.due("table(" + t + ") by " + host + ", came " + came, x.table(t), model.table(t));
            }
        }
    }
}
