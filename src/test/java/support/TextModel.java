import java.util.ArrayList;
import java.util.HashMap;
import java.util.HashSet;
import java.util.List;
import java.util.Map;
import java.util.Set;

/**
 * The text of an inn, read for the model: all tokens first, then all faults of all sorts with their places,
 * and the first of them from the left, of one place the least number, is the fault.
 */
final class TextModel {
    record Token(String text, int place) { }

    int fault;
    int place = -1;
    int tables;
    int chairs;
    String manner;
    final List<Model.Told> words = new ArrayList<>();
    final Set<String> barred = new HashSet<>();
    final List<Character> guests = new ArrayList<>();
    final Map<Character, Integer> likely = new HashMap<>();
    final List<String> seen = new ArrayList<>();

    private final List<Token> tokens = new ArrayList<>();
    private final Set<String> names = new HashSet<>();

    TextModel(String text) {
        cut(text);
        int form = tokensThatFit();
        boolean sound = form == tokens.size();
        // Only what stands ahead of the first fault of form can have a fault of another sort ahead of it.
        boolean clean = tell(tokens.subList(0, Math.min(form, tokens.size() - 1)));
        if (clean && !sound) {
            fail(1, tokens.get(form).place());
        } else if (clean && (manner == null || words.isEmpty() || guests.isEmpty())) {
            fail(6, text.length());
        }
    }

    private void fail(int number, int at) {
        if (fault == 0) {
            fault = number;
            place = at;
        }
    }

    private void cut(String text) {
        int at = 0;
        while (at < text.length()) {
            char c = text.charAt(at);
            String sort = Character.toString(c).matches("[a-z]") ? "[a-z]" : Character.toString(c).matches("[0-9]") ? "[0-9]" : null;
            int to = at + 1;
            while (sort != null && to < text.length() && text.substring(to, to + 1).matches(sort)) {
                to++;
            }
            if (c != ' ') {
                tokens.add(new Token(text.substring(at, to), at));
            }
            at = to;
        }
        tokens.add(new Token("$END", text.length()));
    }

    /** How many tokens, the end too, an inn can begin with: each line as a pattern of what may follow what. */
    private int tokensThatFit() {
        String state = "line";
        for (int i = 0; i < tokens.size(); i++) {
            state = follow(state, tokens.get(i).text());
            if (state == null) {
                return i;
            }
        }
        return tokens.size();
    }

    private static String follow(String state, String token) {
        boolean word = token.matches("[a-z]{1,8}");
        boolean whole = token.matches("[0-9]{1,3}");
        boolean over = token.equals(";") || token.equals("$END");
        switch (state) {
            case "line":
                return switch (token) {
                    case "inn" -> "tables";
                    case "word" -> "theword";
                    case "guest" -> "name";
                    case "likely" -> "likelyletter";
                    case "seen" -> "seenword";
                    default -> null;
                };
            case "tables": return token.equals("tables") ? "tablenumber" : null;
            case "tablenumber": return whole ? "chairs" : null;
            case "chairs": return token.equals("chairs") ? "chairnumber" : null;
            case "chairnumber": return whole ? "grows" : null;
            case "grows": return token.equals("grows") ? "manner" : null;
            case "manner": return token.matches("any|ends|back") ? "over" : null;
            case "theword": return word ? "worth" : null;
            case "worth": return token.equals("worth") ? "worthnumber" : null;
            case "worthnumber": return whole ? "perhaps" : null;
            case "perhaps": return token.equals("barred") ? "over" : over ? "line" : null;
            case "name": return word ? "names" : null;
            case "names": return token.equals(",") ? "name" : over ? "line" : null;
            case "likelyletter": return word ? "weight" : null;
            case "weight": return whole ? "over" : null;
            case "seenword": return word ? "seenwords" : null;
            case "seenwords": return token.equals(",") ? "seenword" : over ? "line" : null;
            case "over": return over ? "line" : null;
            default: return null;
        }
    }

    /** Takes in tokens that fit; false at the first fault. */
    private boolean tell(List<Token> all) {
        List<List<Token>> lines = new ArrayList<>();
        lines.add(new ArrayList<>());
        for (Token t : all) {
            if (t.text().equals(";")) {
                lines.add(new ArrayList<>());
            } else {
                lines.get(lines.size() - 1).add(t);
            }
        }
        boolean seenTold = false;
        int wordLines = 0;
        int likelyLines = 0;
        boolean innTold = false;
        for (List<Token> line : lines) {
            String sort = line.isEmpty() ? "" : line.get(0).text();
            int at = line.isEmpty() ? 0 : line.get(0).place();
            if (sort.equals("inn") && innTold || sort.equals("seen") && seenTold) {
                fail(3, at);
            }
            innTold |= sort.equals("inn");
            seenTold |= sort.equals("seen");
            wordLines += sort.equals("word") ? 1 : 0;
            likelyLines += sort.equals("likely") ? 1 : 0;
            if (wordLines > 24 || likelyLines > 6) {
                fail(5, at);
            }
            if (fault == 0) {
                take(sort, line);
            }
            if (fault != 0) {
                return false;
            }
        }
        return true;
    }

    private void take(String sort, List<Token> line) {
        for (int i = 1; i < line.size(); i++) {
            String text = line.get(i).text();
            int at = line.get(i).place();
            switch (sort) {
                case "inn" -> takeInn(i, text, at);
                case "word" -> takeWord(i, text, at);
                case "guest" -> takeGuest(text, at);
                case "likely" -> takeLikely(i, text, at, line);
                default -> takeSeen(text, at);
            }
        }
    }

    private void bounds(String text, int at, int low, int high) {
        int value = Integer.parseInt(text);
        if (value < low || value > high) {
            fail(4, at);
        }
    }

    private void takeInn(int i, String text, int at) {
        if (i == 2) {
            bounds(text, at, 1, 3);
            tables = Integer.parseInt(text);
        } else if (i == 4) {
            bounds(text, at, 1, 6);
            chairs = Integer.parseInt(text);
        } else if (i == 6) {
            manner = text;
        }
    }

    private void takeWord(int i, String text, int at) {
        if (i == 1) {
            if (words.stream().anyMatch(t -> t.text().equals(text))) {
                fail(3, at);
            }
            if (text.length() > 6) {
                fail(4, at);
            }
            words.add(new Model.Told(text, 0));
        } else if (i == 3) {
            bounds(text, at, 0, 99);
            words.set(words.size() - 1, new Model.Told(words.get(words.size() - 1).text(), Integer.parseInt(text)));
        } else if (i == 4) {
            barred.add(words.get(words.size() - 1).text());
        }
    }

    private void takeGuest(String text, int at) {
        if (!text.equals(",")) {
            if (!names.add(text)) {
                fail(3, at);
            }
            if (names.size() > 8) {
                fail(5, at);
            }
            guests.add(text.charAt(0));
        }
    }

    private void takeLikely(int i, String text, int at, List<Token> line) {
        if (i == 1) {
            if (text.length() > 1) {
                fail(4, at);
            }
            if (likely.put(text.charAt(0), 0) != null) {
                fail(3, at);
            }
        } else {
            bounds(text, at, 1, 9);
            likely.put(line.get(1).text().charAt(0), Integer.parseInt(text));
        }
    }

    private void takeSeen(String text, int at) {
        if (!text.equals(",")) {
            if (words.stream().noneMatch(t -> t.text().equals(text))) {
                fail(2, at);
            }
            if (seen.size() == 6) {
                fail(5, at);
            }
            seen.add(text);
        }
    }
}
