import java.lang.reflect.Constructor;
import java.lang.reflect.Field;
import java.lang.reflect.Method;
import java.lang.reflect.Modifier;
import java.nio.file.Files;
import java.nio.file.Path;
import java.util.ArrayList;
import java.util.Arrays;
import java.util.List;
import java.util.Set;
import java.util.TreeSet;
import java.util.regex.Matcher;
import java.util.regex.Pattern;

/** The face of the document, and the rules of the language as far as a look at the class and its text can tell. */
public final class FaceTest {
    private static final Check CHECK = new Check();
    private static final String[] FACE = {
        "int feed(int, int, int, int, int)", "int inn(int)", "int fault()", "int where()", "int word(int, int)", "int letter(int, int)",
        "int grows(int, int)", "int chain(int)", "int ladder(int, int)", "int rung(int, int, int)", "int grundy(int)", "int most()",
        "int worth()", "int plan(int)", "int richest()", "int fewest()", "int wanted()", "int wants(int)", "int gains(int)",
        "boolean night(int)", "int come(int)", "boolean seat(int, int)", "boolean stand()", "int can()", "int table(int)", "int standing()",
        "int ever()", "int rises(int)", "int steps(int, int, int, int)", "int able()", "int sits(int)", "long hope(int, boolean)",
        "int game()", "int move()", "int mark()", "boolean back(int)", "int wrong()", "int ways()", "int waysOf(int)",
        "boolean rename(int, int)", "boolean bar(int, boolean)", "int guest(int)", "int led(int)", "int size(int)", "int trouble()"};

    public static void main(String[] args) throws Exception {
        face();
        insides();
        text();
        room();
        CHECK.end();
    }

    private static String told(Method m) {
        List<String> types = Arrays.stream(m.getParameterTypes()).map(Class::getSimpleName).toList();
        return m.getReturnType().getSimpleName() + " " + m.getName() + "(" + String.join(", ", types) + ")";
    }

    private static void face() {
        CHECK.part("the face");
        Set<String> there = new TreeSet<>();
        for (Method m : WordTables.class.getDeclaredMethods()) {
            if (Modifier.isPublic(m.getModifiers())) {
                there.add(told(m));
            } else {
                CHECK.due(m.getName() + " is private", Modifier.isPrivate(m.getModifiers()), true);
            }
        }
        CHECK.due("the face's methods: " + there, there.equals(new TreeSet<>(Arrays.asList(FACE))), true);
        for (Field f : WordTables.class.getDeclaredFields()) {
            boolean isNone = f.getName().equals("NONE") && Modifier.isPublic(f.getModifiers()) && Modifier.isStatic(f.getModifiers());
            CHECK.due(f.getName() + " is NONE or private", isNone || Modifier.isPrivate(f.getModifiers()), true);
        }
        Constructor<?>[] made = WordTables.class.getDeclaredConstructors();
        CHECK.due("one constructor", made.length, 1);
        CHECK.due("it is public, without arguments", Modifier.isPublic(made[0].getModifiers()) && made[0].getParameterCount() == 0, true);
        CHECK.due("the class is final", Modifier.isFinal(WordTables.class.getModifiers()), true);
    }

    private static void insides() {
        CHECK.part("the insides");
        Set<String> names = new TreeSet<>();
        for (String method : FACE) {
            names.add(method.substring(method.indexOf(' ') + 1, method.indexOf('(')));
        }
        Class<?>[] inside = WordTables.class.getDeclaredClasses();
        CHECK.due("twelve classes at most: " + inside.length, inside.length <= 11, true);
        List<Class<?>> all = new ArrayList<>(Arrays.asList(inside));
        all.add(WordTables.class);
        for (Class<?> c : all) {
            int fields = 0;
            for (Field f : c.getDeclaredFields()) {
                boolean fixed = Modifier.isStatic(f.getModifiers());
                fields += fixed ? 0 : 1;
                CHECK.due(c.getName() + "." + f.getName() + " is final if it is static", !fixed || Modifier.isFinal(f.getModifiers()), true);
            }
            CHECK.due(c.getName() + " has twenty fields at most: " + fields, fields <= 20, true);
            for (Method m : c.getDeclaredMethods()) {
                boolean ofFace = c == WordTables.class && Modifier.isPublic(m.getModifiers());
                CHECK.due(c.getName() + "." + m.getName() + " has a name of its own", ofFace || !names.contains(m.getName()), true);
                CHECK.due(c.getName() + "." + m.getName() + " has seven arguments at most", m.getParameterCount() <= 7, true);
            }
        }
    }

    private static void text() throws Exception {
        CHECK.part("the text");
        String text = Files.readString(Path.of("src/main/java/WordTables.java"));
        String[] never = {"->", "::", "catch", "finally", "synchronized", "assert ", "static {", "Exact", "System.out", "Random",
            "nanoTime", "currentTime", ".hashCode", ".toString", "package ", "Double", "float ", "double "};
        for (String word : never) {
            CHECK.due("no " + word, text.contains(word), false);
        }
        Matcher imports = Pattern.compile("import ([^;]+);").matcher(text);
        while (imports.find()) {
            CHECK.due(imports.group(1), Set.of("java.util.Arrays", "java.util.NoSuchElementException").contains(imports.group(1)), true);
        }
        Matcher thrown = Pattern.compile("throw new ([^;]+);").matcher(text);
        int throwsThere = 0;
        while (thrown.find()) {
            throwsThere++;
            CHECK.due(thrown.group(1), thrown.group(1).equals("NoSuchElementException()"), true);
        }
        CHECK.due("one throw", throwsThere, 1);
        int from = 0;
        String[] lines = text.split("\n");
        for (int i = 0; i < lines.length; i++) {
            if (lines[i].matches("    (    )?[^ /*@}].*\\) (throws \\w+ )?\\{")) {
                from = i;
            }
            CHECK.due("line " + (i + 1) + ": sixty lines at most", i - from <= 60 || !lines[i].matches("    (    )?\\}"), true);
        }
    }

    /** No call makes anything: what is needed is made with the object. */
    private static void room() {
        CHECK.part("the room");
        com.sun.management.ThreadMXBean bean = (com.sun.management.ThreadMXBean) java.lang.management.ManagementFactory.getThreadMXBean();
        String sound = new Texts(new java.util.Random(5)).sound(24);
        int[][] fives = Texts.fives(sound).toArray(new int[0][]);
        WordTables x = new WordTables();
        long most = 0;
        for (int round = 0; round < 5; round++) {
            long before = bean.getCurrentThreadAllocatedBytes();
            for (int[] f : fives) {
                x.feed(f[0], f[1], f[2], f[3], f[4]);
            }
            x.inn(sound.length());
            useAll(x);
            most = bean.getCurrentThreadAllocatedBytes() - before;
        }
        CHECK.due("bytes made by calls: " + most, most < 4096, true);
    }

    private static void useAll(WordTables x) {
        x.most();
        x.wanted();
        x.wants(0);
        for (int i = -1; i < 26; i++) {
            x.gains(i);
            x.chain(i);
            x.grundy(i);
            x.rises(i);
            x.ladder(i, 0);
            x.rung(0, i, 1);
            x.word(i, 0);
            x.guest(i);
            x.waysOf(i);
        }
        x.ever();
        x.able();
        for (int host = 0; host < 4; host++) {
            x.sits(host);
            x.night(host);
            x.come(3);
            x.mark();
            x.hope(4, true);
            x.steps(-1, -1, -1, 8);
            x.steps(0, -1, -1, 3);
            x.game();
            x.move();
            x.can();
            x.stand();
            x.come(8);
            x.back(0);
        }
        x.wrong();
        x.ways();
        x.rename(0, 25);
        x.bar(0, true);
        x.able();
    }
}
