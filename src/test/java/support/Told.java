/**
 * Inns told in short. The house: "2 5 any" are tables, chairs, how it grows. Words are parted by blanks: "ab" is worth 1,
 * "ab:7" is worth 7, "ab!" and "ab:7!" are barred.
 */
final class Told {
    private Told() {
    }

    static String text(String house, String words, String guests, String... more) {
        String[] three = house.split(" ");
        StringBuilder text = new StringBuilder("inn tables " + three[0] + " chairs " + three[1] + " grows " + three[2]);
        for (String word : words.split(" ")) {
            text.append(';').append(lineOf(word));
        }
        text.append(";guest ").append(guests);
        for (String line : more) {
            text.append(';').append(line);
        }
        return text.toString();
    }

    static WordTables inn(String house, String words, String guests, String... more) {
        return Check.inn(text(house, words, guests, more));
    }

    private static String lineOf(String word) {
        boolean barred = word.endsWith("!");
        String told = barred ? word.substring(0, word.length() - 1) : word;
        int colon = told.indexOf(':');
        String name = colon < 0 ? told : told.substring(0, colon);
        String worth = colon < 0 ? "1" : told.substring(colon + 1);
        return "word " + name + " worth " + worth + (barred ? " barred" : "");
    }
}
