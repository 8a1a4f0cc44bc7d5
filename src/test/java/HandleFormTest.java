/** Promise 4: what is a request, and what is none. */
final class HandleFormTest {
    private static final Checks CHECKS = new Checks();
    private static final int FORMAT = CardMessageDesk.FORMAT;
    private static final int[] KNOWN = {2, 3, 4, 11, 39, 41, 48, 56};

    public static void main(String[] args) {
        upperFourBitsFirst();
        digitInFront();
        fourBits();
        highestDigits();
        characters();
        bitsOfTheMap();
        fieldsByTheirNumbers();
        types();
        cardLengths();
        cardNumbers();
        fieldLengths();
        noteLengths();
        originals();
        answersInRequests();
        fieldsOfTypes();
        unknownFields();
        cutAndLengthened();
        longestRequest();
        CHECKS.end();
    }

    private static void due(String what, String hex, int want) {
        CHECKS.due(what + " " + hex, Bench.withOneCard().send(hex), want);
    }

    private static void due(String what, Message message, int want) {
        due(what, message.hex(), want);
    }

    private static Message other() {
        return new Message("0800").trace(1).terminal("TERM");
    }

    private static Message full(String type) {
        return new Message(type).card(5).sort("000000").amount(7).trace(1).terminal("TERM")
            .note("hello").original(9).raw(39, "3030");
    }

    /** A request of each type with all that it may have, and what a desk with card 5 answers. */
    private static Message[] requests() {
        return new Message[] {Message.hold(5, 1, 1).note("note"),
            Message.debit(5, 1, 1).original(2).note("n"), Message.credit(5, 1, 1),
            Message.reversal(5, 1, 1).note("a"), Message.settlement(1).note("no"),
            full("0800").without(39)};
    }

    private static final int[] ANSWERS = {0, 25, 0, 25, 0, 12};

    private static String spoilt(String hex, int place, String with) {
        return hex.substring(0, place) + with + hex.substring(place + with.length());
    }

    private static void upperFourBitsFirst() {
        CHECKS.about("DIGITS are written two to a byte, the first in the upper four bits");
        Bench bench = Bench.withCard(1000000000000L);
        CHECKS.due("debit", bench.send(Message.debit(5, 1, 1).raw(4, "123456789012")
            .raw(11, "987654")), 0);
        CHECKS.due("trace", bench.desk.entry(0, 1), 987654);
        CHECKS.due("amount", bench.desk.amount(0), 123456789012L);
        due("sort 20", Message.credit(5, 999, 1).sort("200000"), 0);
        due("sort 02", Message.credit(5, 1, 1).sort("020000"), 12);
        due("type 0500", Message.settlement(1), 0);
        due("type 5000", new Message("5000").trace(1).terminal("TERM"), 12);
        due("type 0050", new Message("0050").trace(1).terminal("TERM"), FORMAT);
    }

    private static void digitInFront() {
        CHECKS.about("an odd number of digits has one in front that must be 0 and does not count");
        for (int length = 1; length <= 15; length += 2) {
            String digits = "0".repeat(length - 1) + "5";
            for (char front : "123456789abcdef".toCharArray()) {
                String card = String.format("%02d", length) + front + digits;
                due("front", Message.hold(5, 1, 1).raw(2, card), FORMAT);
            }
            due("front", Message.hold(5, 1, 1).raw(2, String.format("%02d0", length) + digits), 0);
        }
        // Of an even number the first digit counts.
        for (int length = 2; length <= 16; length += 2) {
            String card = String.format("%02d", length) + "1" + "0".repeat(length - 2) + "5";
            due("first digit", Message.hold(5, 1, 1).raw(2, card), 14);
        }
    }

    private static void fourBits() {
        CHECKS.about("Each four bits must be 0 .. 9");
        Message[] requests = requests();
        for (int k = 0; k < requests.length; k++) {
            String hex = requests[k].hex();
            due("whole", hex, ANSWERS[k]);
            for (int place : requests[k].digitPlaces()) {
                for (String letter : "a b c d e f".split(" ")) {
                    due("at " + place, spoilt(hex, place, letter), FORMAT);
                }
            }
        }
    }

    private static void highestDigits() {
        CHECKS.about("Each four bits must be 0 .. 9");
        due("sort", Message.hold(5, 1, 1).sort("999999"), 12);
        due("sort", Message.hold(5, 1, 1).sort("009999"), 0);
        due("amount", Message.credit(5, 999999999999L, 1), 0);
        due("trace", Message.hold(5, 1, 999999), 0);
        due("original", Message.reversal(5, 1, 999999), 25);
        due("card", Message.hold(9999999999999999L, 1, 1), 14);
        due("type", new Message("9909").trace(1).terminal("TERM"), 12);
    }

    private static void characters() {
        CHECKS.about("CHARACTERS are bytes 32 .. 126");
        Message[] requests = requests();
        for (int k = 0; k < requests.length; k++) {
            String hex = requests[k].hex();
            for (int place : requests[k].characterPlaces()) {
                for (int value = 0; value < 256; value++) {
                    due("at " + place, spoilt(hex, place, String.format("%02x", value)),
                        value >= 32 && value <= 126 ? ANSWERS[k] : FORMAT);
                }
            }
        }
    }

    /** A bit beside the one of a field that is needed does not stand for it. */
    private static void bitsOfTheMap() {
        CHECKS.about("bit k (1 the highest bit of the first byte, 64 the lowest of the last)");
        due("all", "0800" + "7020000000810100" + "0105" + "000000" + "000000000007" + "000001"
            + "5445524d" + "0000" + "06000009", 12);
        due("11 and 41", "0500" + "0020000000800000" + "000001" + "5445524d", 0);
        due("10 and 41", "0500" + "0040000000800000" + "000001" + "5445524d", FORMAT);
        due("12 and 41", "0500" + "0010000000800000" + "000001" + "5445524d", FORMAT);
        due("11 and 40", "0500" + "0020000001000000" + "000001" + "5445524d", FORMAT);
        due("11 and 42", "0500" + "0020000000400000" + "000001" + "5445524d", FORMAT);
        due("bits from the lowest", "0500" + "0000010000000400" + "000001" + "5445524d", FORMAT);
        due("bytes from the last", "0500" + "0000800000002000" + "000001" + "5445524d", FORMAT);
        due("no bit", "0500" + "0000000000000000", FORMAT);
        due("all bits", "0500" + "ffffffffffffffff", FORMAT);
        due("bit 1", "0500" + "8020000000800000" + "000001" + "5445524d", FORMAT);
        due("bit 64", "0500" + "0020000000800001" + "000001" + "5445524d", FORMAT);
    }

    private static void fieldsByTheirNumbers() {
        CHECKS.about("and then the fields that are there, by their numbers");
        due("11, 41, 48, 56", "0800" + "0020000000810100" + "000001" + "5445524d" + "00012a"
            + "06000009", 12);
        due("41 before 11", "0800" + "0020000000810100" + "5445524d" + "000001" + "00012a"
            + "06000009", FORMAT);
        due("56 before 48", "0800" + "0020000000810100" + "000001" + "5445524d" + "06000009"
            + "00012a", FORMAT);
        due("3, 4", "0800" + "3020000000800000" + "200000" + "000000000007" + "000001"
            + "5445524d", 12);
        due("11 before 2", "0800" + "4020000000800000" + "000001" + "0105" + "5445524d", FORMAT);
    }

    private static void types() {
        CHECKS.about("A REQUEST is a message whose type has 0 as its third digit");
        for (int type = 0; type < 10000; type++) {
            Message message = new Message(String.format("%04d", type)).trace(1).terminal("TERM");
            boolean needsMore = type == 100 || type == 200 || type == 400;
            due("type", message,
                type / 10 % 10 != 0 || needsMore ? FORMAT : type == 500 ? 0 : 12);
        }
        for (int third = 1; third <= 9; third++) {
            due("0100's third digit", Message.money("01" + third + "0", "00", 5, 1, 1), FORMAT);
            due("0200's third digit", Message.money("02" + third + "0", "00", 5, 1, 1), FORMAT);
        }
    }

    private static void cardLengths() {
        CHECKS.about("two digits that say how many follow, 1 to 16, and these digits");
        for (int count = 0; count < 100; count++) {
            String digits = "0".repeat((count + 1) / 2 * 2) + "5";
            String card = String.format("%02d", count) + digits.substring(digits.length() % 2);
            boolean good = count >= 1 && count <= 16;
            due("card of " + count, Message.hold(5, 1, 1).raw(2, card), good ? 0 : FORMAT);
            due("other type's card of " + count, other().raw(2, card), good ? 12 : FORMAT);
        }
        due("no digits", Message.hold(5, 1, 1).raw(2, "00"), FORMAT);
        due("no digits, other type", other().raw(2, "00"), FORMAT);
        due("17 digits in 8 bytes", Message.hold(5, 1, 1).raw(2, "170000000000000005"), FORMAT);
        due("16 digits in 9 bytes", Message.hold(5, 1, 1).raw(2, "16000000000000000005"), FORMAT);
        due("15 digits in 7 bytes", Message.hold(5, 1, 1).raw(2, "1500000000000005"), FORMAT);
        due("1 digit in no byte", Message.hold(5, 1, 1).raw(2, "01"), FORMAT);
        due("2 digits in 2 bytes", Message.hold(5, 1, 1).raw(2, "020005"), FORMAT);
    }

    private static void cardNumbers() {
        CHECKS.about("the card is the number that they make");
        for (int length = 1; length <= 16; length++) {
            String digits = "9876543219876543".substring(0, length);
            Bench bench = new Bench();
            bench.desk.open(Long.parseLong(digits), 10);
            CHECKS.due("card " + digits, bench.send(Message.debit(5, 1, 1).cardDigits(digits)), 0);
            CHECKS.due("balance of " + digits, bench.desk.balance(Long.parseLong(digits)), 9);
            due("zeros and 5", Message.hold(5, 1, 1).cardDigits("0".repeat(length - 1) + "5"), 0);
            due("only zeros", Message.hold(5, 1, 1).cardDigits("0".repeat(length)), 14);
        }
        due("5 and a zero", Message.hold(5, 1, 1).cardDigits("50"), 14);
        Bench bench = new Bench();
        bench.desk.open(9999999999999999L, 10);
        CHECKS.due("the highest", bench.send(Message.debit(9999999999999999L, 10, 1)), 0);
        CHECKS.due("its neighbour", bench.send(Message.debit(9999999999999998L, 0, 2)), 14);
    }

    /** Each field one byte shorter or longer than it must be. */
    private static void fieldLengths() {
        CHECKS.about("3 SORT: 6 digits.   4 AMOUNT: 12 digits.   11 TRACE: 6 digits");
        due("as they must be", Message.hold(5, 1, 1), 0);
        due("sort of 4", Message.hold(5, 1, 1).raw(3, "0000"), FORMAT);
        due("sort of 8", Message.hold(5, 1, 1).raw(3, "00000000"), FORMAT);
        due("amount of 10", Message.hold(5, 1, 1).raw(4, "0000000001"), FORMAT);
        due("amount of 14", Message.hold(5, 1, 1).raw(4, "00000000000001"), FORMAT);
        due("trace of 4", Message.hold(5, 1, 1).raw(11, "0001"), FORMAT);
        due("trace of 8", Message.hold(5, 1, 1).raw(11, "00000001"), FORMAT);
        CHECKS.about("41 TERMINAL: 4 characters");
        due("3 characters", Message.hold(5, 1, 1).terminal("TER"), FORMAT);
        due("5 characters", Message.hold(5, 1, 1).terminal("TERMI"), FORMAT);
        due("no character", Message.settlement(1).terminal(""), FORMAT);
        due("4 spaces", Message.settlement(1).terminal("    "), 0);
    }

    private static void noteLengths() {
        CHECKS.about("48 NOTE: 4 digits that say how many characters follow, 0 to 40, and these");
        Message[] requests = requests();
        for (int k = 0; k < requests.length; k++) {
            for (int length = 0; length <= 45; length++) {
                due("note of " + length, requests[k].note("n".repeat(length)),
                    length <= 40 ? ANSWERS[k] : FORMAT);
            }
        }
        due("one character too few", Message.settlement(1).raw(48, "00036e6e"), FORMAT);
        due("one character too many", Message.settlement(1).raw(48, "00016e6e"), FORMAT);
        due("none, but one is there", Message.settlement(1).raw(48, "00006e"), FORMAT);
        due("39 of 40", Message.settlement(1).raw(48, "0040" + "6e".repeat(39)), FORMAT);
        due("41 of 40", Message.settlement(1).raw(48, "0040" + "6e".repeat(41)), FORMAT);
        for (String count : new String[] {"0041", "0050", "0100", "0140", "1000", "4000", "9999"}) {
            due("count without characters", Message.settlement(1).raw(48, count), FORMAT);
            due("count and 40", Message.settlement(1).raw(48, count + "6e".repeat(40)), FORMAT);
        }
        due("count of 2 digits", Message.settlement(1).raw(48, "00"), FORMAT);
        due("no count", Message.settlement(1).raw(48, ""), FORMAT);
    }

    private static void originals() {
        CHECKS.about("56 ORIGINAL: two digits that are 06, and 6 digits");
        for (int count = 0; count < 100; count++) {
            String original = String.format("%02d000001", count);
            due("0400", Message.reversal(5, 1, 1).raw(56, original), count == 6 ? 25 : FORMAT);
            due("0200", Message.debit(5, 1, 1).raw(56, original), count == 6 ? 25 : FORMAT);
            due("0800", other().raw(56, original), count == 6 ? 12 : FORMAT);
            due("as many as it says", other().raw(56, String.format("%02d", count)
                + "0".repeat((count + 1) / 2 * 2)), count == 6 ? 12 : FORMAT);
        }
        due("4 digits", Message.reversal(5, 1, 1).raw(56, "060001"), FORMAT);
        due("8 digits", Message.reversal(5, 1, 1).raw(56, "0600000001"), FORMAT);
    }

    private static void answersInRequests() {
        CHECKS.about("any other type 11 and 41, and perhaps others but 39");
        for (String answer : new String[] {"", "3030", "3132", "00"}) {
            due("0800", other().raw(39, answer), FORMAT);
            due("0500", Message.settlement(1).raw(39, answer), FORMAT);
            due("0400", Message.reversal(5, 1, 1).raw(39, answer), FORMAT);
            due("0200", Message.debit(5, 1, 1).raw(39, answer), FORMAT);
            due("0100", Message.hold(5, 1, 1).raw(39, answer), FORMAT);
        }
        due("without 11", other().without(11), FORMAT);
        due("without 41", other().without(41), FORMAT);
        due("with all others", full("0800").without(39), 12);
    }

    private static void fieldsOfTypes() {
        CHECKS.about("0100 and 0200 the fields 2, 3, 4, 11, 41, and 0200 perhaps 56");
        fieldsOf("0100");
        fieldsOf("0200");
        CHECKS.about("0400 the fields 2, 11, 41, 56");
        fieldsOf("0400");
        CHECKS.about("0500 the fields 11, 41");
        fieldsOf("0500");
        CHECKS.about("any other type 11 and 41, and perhaps others but 39; each perhaps 48, and "
            + "none else");
        for (String type : new String[] {"0800", "0101", "9900", "0000", "1100", "0300"}) {
            fieldsOf(type);
        }
    }

    /** Every set of the known fields. */
    private static void fieldsOf(String type) {
        for (int set = 0; set < 256; set++) {
            Message message = full(type);
            StringBuilder names = new StringBuilder();
            for (int bit = 0; bit < 8; bit++) {
                if ((set >> bit & 1) == 0) {
                    message.without(KNOWN[bit]);
                } else {
                    names.append(' ').append(KNOWN[bit]);
                }
            }
            CHECKS.due(type + " with" + names, Bench.withOneCard().send(message) == FORMAT,
                !belongs(type, names.toString().replace(" 48", "")));
        }
    }

    private static boolean belongs(String type, String names) {
        switch (type) {
            case "0100":
                return names.equals(" 2 3 4 11 41");
            case "0200":
                return names.equals(" 2 3 4 11 41") || names.equals(" 2 3 4 11 41 56");
            case "0400":
                return names.equals(" 2 11 41 56");
            case "0500":
                return names.equals(" 11 41");
            default:
                return names.contains(" 11 41");
        }
    }

    private static void unknownFields() {
        CHECKS.about("so what has a bit in the map for a field that is not known, too");
        for (int field = 1; field <= 64; field++) {
            if (" 2 3 4 11 39 41 48 56 ".contains(" " + field + " ")) {
                continue;
            }
            for (String bytes : new String[] {"", "00", "3030"}) {
                due("field " + field, other().raw(field, bytes), FORMAT);
                due("field " + field, Message.settlement(1).raw(field, bytes), FORMAT);
                due("field " + field, Message.reversal(5, 1, 1).raw(field, bytes), FORMAT);
                due("field " + field, Message.debit(5, 1, 1).raw(field, bytes), FORMAT);
                due("field " + field, Message.hold(5, 1, 1).raw(field, bytes), FORMAT);
            }
        }
    }

    private static void cutAndLengthened() {
        CHECKS.about("Whatever is no request from its first byte to its last is NO REQUEST");
        for (Message message : requests()) {
            String hex = message.hex();
            CHECKS.due("whole " + hex, Bench.withOneCard().send(hex) != FORMAT, true);
            for (int end = 0; end < hex.length(); end += 2) {
                due("cut at its end", hex.substring(0, end), FORMAT);
            }
            for (int start = 2; start < hex.length(); start += 2) {
                due("cut at its start", hex.substring(start), FORMAT);
            }
            due("one byte more", hex + "00", FORMAT);
            due("one character more", hex + "20", FORMAT);
            due("one byte before it", "00" + hex, FORMAT);
            due("twice", hex + hex, FORMAT);
        }
        due("no bytes", "", FORMAT);
    }

    private static void longestRequest() {
        CHECKS.about("Whatever is no request from its first byte to its last is NO REQUEST");
        String hex = full("0800").without(39).cardDigits("1".repeat(16)).note("~".repeat(40)).hex();
        CHECKS.due("bytes of the longest request", hex.length() / 2, 81);
        due("the longest request", hex, 12);
        for (int length = 82; length <= 120; length++) {
            due("with more bytes", hex + "20".repeat(length - 81), FORMAT);
        }
    }
}
