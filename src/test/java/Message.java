import java.util.ArrayList;
import java.util.List;
import java.util.Map;
import java.util.TreeMap;

/** Builds a message as a text of hexadecimal digits; any field can be written raw, too. */
final class Message {
    private final String type;
    private final TreeMap<Integer, String> fields = new TreeMap<>();

    Message(String type) {
        this.type = type;
    }

    /** A hold (0100), debit or credit (0200), by the sort's first two digits. */
    static Message money(String type, String kind, long card, long amount, int trace) {
        return new Message(type).card(card).sort(kind + "0000").amount(amount).trace(trace)
            .terminal("TERM");
    }

    static Message hold(long card, long amount, int trace) {
        return money("0100", "00", card, amount, trace);
    }

    static Message debit(long card, long amount, int trace) {
        return money("0200", "00", card, amount, trace);
    }

    static Message credit(long card, long amount, int trace) {
        return money("0200", "20", card, amount, trace);
    }

    static Message reversal(long card, int trace, int original) {
        return new Message("0400").card(card).trace(trace).terminal("TERM").original(original);
    }

    static Message settlement(int trace) {
        return new Message("0500").trace(trace).terminal("TERM");
    }

    Message raw(int field, String hex) {
        fields.put(field, hex);
        return this;
    }

    Message without(int field) {
        fields.remove(field);
        return this;
    }

    Message card(long card) {
        return cardDigits(Long.toString(card));
    }

    Message cardDigits(String digits) {
        String padding = digits.length() % 2 == 0 ? "" : "0";
        return raw(2, String.format("%02d", digits.length()) + padding + digits);
    }

    Message sort(String digits) {
        return raw(3, digits);
    }

    Message amount(long amount) {
        return raw(4, String.format("%012d", amount));
    }

    Message trace(int trace) {
        return raw(11, String.format("%06d", trace));
    }

    Message terminal(String characters) {
        return raw(41, hexOf(characters));
    }

    Message note(String characters) {
        return raw(48, String.format("%04d", characters.length()) + hexOf(characters));
    }

    Message original(int trace) {
        return raw(56, "06" + String.format("%06d", trace));
    }

    static String hexOf(String characters) {
        StringBuilder hex = new StringBuilder();
        for (int i = 0; i < characters.length(); i++) {
            hex.append(String.format("%02x", (int) characters.charAt(i)));
        }
        return hex.toString();
    }

    /** The four characters of a terminal as net takes them. */
    static int terminalNumber(String characters) {
        return (int) Long.parseLong(hexOf(characters), 16);
    }

    /** Where in hex() a digit stands, and not the map or a character. */
    List<Integer> digitPlaces() {
        List<Integer> places = new ArrayList<>();
        addPlaces(places, 0, 4);
        int start = 20;
        for (Map.Entry<Integer, String> field : fields.entrySet()) {
            int length = field.getValue().length();
            addPlaces(places, start, start + digitsOf(field.getKey(), length));
            start += length;
        }
        return places;
    }

    /** Where in hex() the byte of a character begins. */
    List<Integer> characterPlaces() {
        List<Integer> places = new ArrayList<>();
        int start = 20;
        for (Map.Entry<Integer, String> field : fields.entrySet()) {
            int length = field.getValue().length();
            for (int place = digitsOf(field.getKey(), length); place < length; place += 2) {
                places.add(start + place);
            }
            start += length;
        }
        return places;
    }

    private static int digitsOf(int field, int length) {
        return field == 41 ? 0 : field == 48 ? 4 : length;
    }

    private static void addPlaces(List<Integer> places, int start, int end) {
        for (int place = start; place < end; place++) {
            places.add(place);
        }
    }

    String hex() {
        long map = 0;
        StringBuilder rest = new StringBuilder();
        for (Map.Entry<Integer, String> field : fields.entrySet()) {
            map |= 1L << (64 - field.getKey());
            rest.append(field.getValue());
        }
        return type + String.format("%016x", map) + rest;
    }
}
