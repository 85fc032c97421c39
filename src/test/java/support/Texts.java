import java.util.ArrayList;
import java.util.LinkedHashSet;
import java.util.List;
import java.util.Random;
import java.util.Set;

/** Texts of inns by chance, sound ones and ones with a fault put in, and how they are fed. */
final class Texts {
    private final Random chance;

    Texts(Random chance) {
        this.chance = chance;
    }

    /** The numbers to feed for a text, five for each call; what is left over is filled with blanks. */
    static List<int[]> fives(String text) {
        List<int[]> all = new ArrayList<>();
        for (int at = 0; at < text.length(); at += 20) {
            int[] five = new int[5];
            for (int i = 0; i < 20; i++) {
                int sign = at + i < text.length() ? text.charAt(at + i) : ' ';
                five[i / 4] = five[i / 4] << 8 | sign;
            }
            all.add(five);
        }
        return all;
    }

    private int upTo(int bound) {
        return chance.nextInt(bound);
    }

    private String sign(String alphabet) {
        int at = upTo(alphabet.length());
        return alphabet.substring(at, at + 1);
    }

    private String madeWord(List<String> words, String alphabet) {
        if (!words.isEmpty() && upTo(4) > 0) {
            String from = words.get(upTo(words.size()));
            int p = upTo(3) == 0 ? upTo(from.length() + 1) : upTo(3) == 0 ? 0 : from.length();
            String longer = from.substring(0, p) + sign(alphabet) + from.substring(p);
            return longer.length() <= 6 ? longer : from;
        }
        StringBuilder word = new StringBuilder();
        int letters = 1 + (upTo(2) == 0 ? 0 : upTo(6));
        for (int i = 0; i < letters; i++) {
            word.append(sign(alphabet));
        }
        return word.toString();
    }

    /** Words of few letters, most of which another one grows into; never longer than the tape. */
    String sound(int mostWords) {
        String alphabet = "etaoinsz".substring(0, 1 + upTo(5));
        Set<String> words = new LinkedHashSet<>();
        int wordCount = 1 + upTo(mostWords);
        for (int i = 0; i < 4 * wordCount && words.size() < wordCount; i++) {
            words.add(madeWord(new ArrayList<>(words), alphabet));
        }
        List<String> lines = new ArrayList<>();
        lines.add("inn tables " + (1 + upTo(3)) + " chairs " + (upTo(3) == 0 ? 1 + upTo(6) : 3 + upTo(4)) + " grows "
            + new String[] {"any", "ends", "back"}[upTo(3)]);
        int most = upTo(3) == 0 ? 100 : 4;
        for (String word : words) {
            lines.add("word " + word + " worth " + upTo(most) + (upTo(8) == 0 ? " barred" : ""));
        }
        addGuests(lines, alphabet);
        addLikely(lines, alphabet);
        addSeen(lines, new ArrayList<>(words));
        return String.join(";", lines);
    }

    /** 24 words of few letters at three tables: all of them are taken soon, and where few may stand, ways go round about. */
    String crowded() {
        Set<String> words = new LinkedHashSet<>(List.of("a", "b", "c"));
        while (words.size() < 24) {
            StringBuilder word = new StringBuilder();
            for (int i = upTo(3); i >= 0; i--) {
                word.append(sign("abc"));
            }
            words.add(word.toString());
        }
        List<String> guests = new ArrayList<>();
        for (int g = 4 + upTo(5); g > 0; g--) {
            guests.add(sign("abc") + (char) ('a' + g));
        }
        return Told.text("3 3 " + (upTo(2) == 0 ? "back" : "any"), String.join(" ", words), String.join(",", guests), "likely a "
            + (1 + upTo(9)), "likely b " + (1 + upTo(9)), "likely c " + (1 + upTo(9)));
    }

    private void addGuests(List<String> lines, String alphabet) {
        int guests = 1 + upTo(8);
        StringBuilder line = new StringBuilder("guest ");
        for (int g = 0; g < guests; g++) {
            String name = sign(upTo(9) == 0 ? alphabet + "q" : alphabet) + (char) ('a' + g);
            line.append(g == 0 ? "" : upTo(4) == 0 ? ";guest " : ",").append(name);
        }
        lines.add(1 + upTo(lines.size()), line.toString());
    }

    private void addLikely(List<String> lines, String alphabet) {
        Set<String> letters = new LinkedHashSet<>();
        int likely = upTo(7);
        for (int i = 0; i < likely; i++) {
            letters.add(sign(upTo(5) == 0 ? alphabet + "q" : alphabet));
        }
        for (String letter : letters) {
            lines.add(upTo(lines.size() + 1), "likely " + letter + " " + (1 + upTo(9)));
        }
    }

    private void addSeen(List<String> lines, List<String> words) {
        if (upTo(4) == 0) {
            return;
        }
        List<String> row = new ArrayList<>();
        row.add(words.get(upTo(words.size())));
        int more = upTo(6);
        for (int i = 0; i < more; i++) {
            String last = row.get(row.size() - 1);
            List<String> longer = words.stream().filter(w -> w.length() == last.length() + 1 && isLike(last, w)).toList();
            if (!longer.isEmpty()) {
                row.add(longer.get(upTo(longer.size())));
            } else if (upTo(4) == 0) {
                row.add(words.get(upTo(words.size())));
            }
        }
        lines.add("seen " + String.join(",", row));
    }

    private static boolean isLike(String word, String other) {
        return other.startsWith(word) || other.endsWith(word) || other.charAt(0) == word.charAt(0);
    }

    /** Lines put between lines, most of which are too many or told again. */
    private String stuffed(String text) {
        String[] lines = {"seen a", "seen e,e,e,e,e,e,e", "inn tables 1 chairs 1 grows any", "guest xa,xb,xc,xd,xe,xf,xg,xh", "guest ea,ta",
            "likely q 1;likely r 1;likely s 1;likely u 1;likely v 1;likely w 1", "likely e 2", "word e worth 1", "word t worth 1;seen t,t,t,t,t,t,t",
            "word qq worth 1;word qr worth 1;word qs worth 1;word qt worth 1;word qu worth 1;word qv worth 1;word qw worth 1"};
        int at = text.indexOf(';', upTo(text.length()));
        at = at < 0 ? text.length() : at;
        return text.substring(0, at) + ";" + lines[upTo(lines.length)] + text.substring(at);
    }

    /** The same with one or two tokens, signs or lines changed, left out, put in, or put twice. */
    String spoiled(String text) {
        String made = text;
        int times = 1 + upTo(2);
        for (int i = 0; i < times && !made.isEmpty(); i++) {
            int at = upTo(made.length());
            int to = Math.min(made.length(), at + 1 + upTo(12));
            String[] bits = {";", ",", " ", "  ", "9", "0", "007", "100", "1000", "inn", "word", "seen", "guest", "likely", "barred",
                "abcdefg", "abcdefgh", "abcdefghi", "a", "A", "-", "\u00e9", "any", "worth", ";seen a", ";inn tables 1", ";guest x,y,z",
                ";likely e 3;likely t 1", ";word ee worth 3", ";guest a,b,c,d,e,f,g,h", ""};
            String bit = bits[upTo(bits.length)];
            switch (upTo(7)) {
                case 0 -> made = made.substring(0, at) + made.substring(to);
                case 1 -> made = made.substring(0, at) + bit + made.substring(at);
                case 2 -> made = made.substring(0, at) + bit + made.substring(to);
                case 3 -> made = made.substring(0, at);
                case 4, 5 -> made = stuffed(made);
                default -> made = made.substring(0, to) + made.substring(at);
            }
        }
        return made.length() > 900 ? made.substring(0, 900) : made;
    }
}
