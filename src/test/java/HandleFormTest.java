/** Promise 4: what is a request, and what is none. */
final class HandleFormTest {
    private static final Checks CHECKS = new Checks();
    private static final int FORMAT = CardMessageDesk.FORMAT;
    private static final int[] KNOWN = {2, 3, 4, 11, 39, 41, 48, 56};

    public static void main(String[] args) {
        cutAndLengthened();
        types();
        fieldsOfTypes();
        unknownFields();
        digits();
        cards();
        cardsOfAllLengths();
        characters();
        notes();
        originals();
        noRequestChangesNothing();
        CHECKS.end();
    }

    /** The answer of a new desk with card 5 of balance 100. */
    private static int answer(String hex) {
        Bench bench = new Bench();
        bench.desk.open(5, 100);
        return bench.send(hex);
    }

    private static void due(String what, Message message, int want) {
        CHECKS.due(what + " " + message.hex(), answer(message.hex()), want);
    }

    private static Message full(String type) {
        Message message = new Message(type).card(5).sort("000000").amount(7).trace(1)
            .terminal("TERM").note("hello").original(9);
        return message.raw(39, "3030");
    }

    private static void cutAndLengthened() {
        Message[] whole = {Message.hold(5, 1, 1), Message.debit(5, 1, 1).note("x"),
            Message.reversal(5, 1, 1), Message.settlement(1), Message.settlement(1).note("")};
        for (Message message : whole) {
            String hex = message.hex();
            CHECKS.due("whole " + hex, answer(hex) != FORMAT, true);
            for (int end = 0; end < hex.length(); end += 2) {
                CHECKS.due("cut at " + end, answer(hex.substring(0, end)), FORMAT);
            }
            CHECKS.due("one byte more", answer(hex + "00"), FORMAT);
            CHECKS.due("one character more", answer(hex + "20"), FORMAT);
            CHECKS.due("twice", answer(hex + hex), FORMAT);
        }
        CHECKS.due("no bytes", answer(""), FORMAT);
    }

    private static void types() {
        for (int type = 0; type < 10000; type++) {
            Message message = new Message(String.format("%04d", type)).trace(1).terminal("TERM");
            boolean needsMore = type == 100 || type == 200 || type == 400;
            int want = type / 10 % 10 != 0 || needsMore ? FORMAT : type == 500 ? 0 : 12;
            CHECKS.due("type " + type, answer(message.hex()), want);
        }
        for (String type : new String[] {"0a00", "a500", "05a0", "050a", "f500", "0f00", "050f"}) {
            due("type with a letter", new Message(type).trace(1).terminal("TERM"), FORMAT);
        }
    }

    /** Every set of the known fields with each type. */
    private static void fieldsOfTypes() {
        String[] types = {"0100", "0200", "0400", "0500", "0800", "0101", "9900"};
        for (String type : types) {
            for (int set = 0; set < 256; set++) {
                Message message = full(type);
                StringBuilder names = new StringBuilder();
                for (int bit = 0; bit < 8; bit++) {
                    if ((set >> bit & 1) == 0) {
                        message.without(KNOWN[bit]);
                    } else {
                        names.append(' ').append(KNOWN[bit]);
                    }
                }
                CHECKS.due(type + " with" + names, answer(message.hex()) == FORMAT,
                    !belongs(type, names.toString().replace(" 48", "")));
            }
        }
    }

    private static boolean belongs(String type, String names) {
        switch (type) {
            case "0100":
                return names.equals(" 2 3 4 11 41");
            case "0200":
                return names.equals(" 2 3 4 11 41") || names.equals(" 2 3 4 11 41 56");
            case "0400":
                return names.equals(" 2 11 41 56");
            case "0500":
                return names.equals(" 11 41");
            default:
                return names.contains(" 11 41");
        }
    }

    private static void unknownFields() {
        for (int field = 1; field <= 64; field++) {
            boolean known = field == 2 || field == 3 || field == 4 || field == 11 || field == 41
                || field == 48 || field == 56;
            if (known) {
                continue;
            }
            for (String type : new String[] {"0500", "0800"}) {
                Message message = new Message(type).trace(1).terminal("TERM");
                due("field " + field, message.raw(field, ""), FORMAT);
                due("field " + field, message.raw(field, "00"), FORMAT);
                due("field " + field, message.raw(field, "3030"), FORMAT);
            }
        }
    }

    private static void digits() {
        due("sort", Message.hold(5, 1, 1).sort("009999"), 0);
        due("amount", Message.credit(5, 999999999999L, 1), 0);
        due("trace", Message.hold(5, 1, 999999), 0);
        for (int place = 0; place < 6; place++) {
            due("sort", Message.hold(5, 1, 1).sort(spoilt("000000", place, 'a')), FORMAT);
            due("trace", Message.hold(5, 1, 1).raw(11, spoilt("000001", place, 'b')), FORMAT);
            due("original", Message.reversal(5, 1, 1).raw(56, "06" + spoilt("000001", place, 'f')),
                FORMAT);
        }
        for (int place = 0; place < 12; place++) {
            due("amount", Message.hold(5, 1, 1).raw(4, spoilt("000000000001", place, 'c')), FORMAT);
        }
    }

    private static String spoilt(String digits, int place, char with) {
        return digits.substring(0, place) + with + digits.substring(place + 1);
    }

    private static void cards() {
        for (int length = 1; length <= 16; length++) {
            Message message = Message.hold(5, 1, 1).cardDigits("0".repeat(length - 1) + "5");
            due("card of " + length + " digits", message, 0);
        }
        due("no digits", Message.hold(5, 1, 1).raw(2, "00"), FORMAT);
        due("no digits, a byte", Message.hold(5, 1, 1).raw(2, "0005"), FORMAT);
        due("17 digits", Message.hold(5, 1, 1).raw(2, "17000000000000000005"), FORMAT);
        due("18 digits", Message.hold(5, 1, 1).raw(2, "18000000000000000005"), FORMAT);
        due("99 digits", Message.hold(5, 1, 1).raw(2, "99000000000000000005"), FORMAT);
        due("count a", Message.hold(5, 1, 1).raw(2, "0a0000000005"), FORMAT);
        due("padded by 1", Message.hold(5, 1, 1).raw(2, "0115"), FORMAT);
        due("padded by a", Message.hold(5, 1, 1).raw(2, "01a5"), FORMAT);
        due("padded by 1, 3 digits", Message.hold(5, 1, 1).raw(2, "031005"), FORMAT);
        due("letter", Message.hold(5, 1, 1).raw(2, "010a"), FORMAT);
        due("letter in the last byte", Message.hold(5, 1, 1).raw(2, "0400a5"), FORMAT);
        due("card 0", Message.hold(5, 1, 1).cardDigits("0"), 14);
        due("card 50", Message.hold(5, 1, 1).cardDigits("50"), 14);
        due("card of an unknown type, not good", new Message("0800").raw(2, "00").trace(1)
            .terminal("TERM"), FORMAT);
    }

    /** The digit that does not count is in front of the first byte alone. */
    private static void cardsOfAllLengths() {
        for (int length = 1; length <= 16; length++) {
            String digits = "9876543219876543".substring(0, length);
            Bench bench = new Bench();
            bench.desk.open(Long.parseLong(digits), 10);
            CHECKS.due("card " + digits, bench.send(Message.debit(5, 1, 1).cardDigits(digits)), 0);
            CHECKS.due("balance of " + digits, bench.desk.balance(Long.parseLong(digits)), 9);
        }
    }

    private static void characters() {
        for (int value = 0; value < 256; value++) {
            int want = value >= 32 && value <= 126 ? 0 : FORMAT;
            String hex = String.format("%02x", value);
            due("terminal", Message.settlement(1).raw(41, hex + "414141"), want);
            due("terminal", Message.settlement(1).raw(41, "414141" + hex), want);
            due("note", Message.settlement(1).raw(48, "0002" + hex + "41"), want);
            due("note", Message.settlement(1).raw(48, "0002" + "41" + hex), want);
        }
    }

    private static void notes() {
        for (int length = 0; length <= 45; length++) {
            due("note of " + length, Message.settlement(1).note("n".repeat(length)),
                length <= 40 ? 0 : FORMAT);
        }
        due("note's count too high", Message.settlement(1).raw(48, "00036e6e"), FORMAT);
        due("note's count too low", Message.settlement(1).raw(48, "00016e6e"), FORMAT);
        due("note's count of 100", Message.settlement(1).raw(48, "0100"), FORMAT);
        due("note's count of 1000", Message.settlement(1).raw(48, "1000"), FORMAT);
        due("note's count a", Message.settlement(1).raw(48, "000a" + "6e".repeat(10)), FORMAT);
        due("longest request", full("0800").without(39).cardDigits("1".repeat(16))
            .note("~".repeat(40)), 12);
    }

    private static void originals() {
        for (int count = 0; count < 100; count++) {
            Message message = Message.reversal(5, 1, 1).raw(56, String.format("%02d000001", count));
            due("original's count", message, count == 6 ? 25 : FORMAT);
        }
        due("original's count 0f", Message.reversal(5, 1, 1).raw(56, "0f000001"), FORMAT);
        due("original of an unknown type", new Message("0800").trace(1).terminal("TERM")
            .raw(56, "05000001"), FORMAT);
    }

    private static void noRequestChangesNothing() {
        Bench bench = new Bench();
        bench.desk.open(5, 100);
        bench.send(Message.hold(5, 10, 1));
        bench.send(Message.debit(5, 20, 2));
        CHECKS.due("too long", bench.send(Message.debit(5, 20, 3).hex() + "00"), FORMAT);
        CHECKS.due("reply", bench.reply(), "");
        CHECKS.due("too long", bench.send(Message.settlement(4).hex() + "00"), FORMAT);
        CHECKS.due("too long", bench.send(Message.reversal(5, 5, 2).hex() + "00"), FORMAT);
        CHECKS.due("balance", bench.desk.balance(5), 80);
        CHECKS.due("available", bench.desk.available(5), 70);
        CHECKS.due("entries", bench.desk.entries(), 2);
        CHECKS.due("settled", bench.desk.settled(), 0);
        CHECKS.due("states", bench.states(), "1 0");
        CHECKS.due("IN is empty", bench.desk.feed(0, 1), 1);
        CHECKS.due("one byte", bench.desk.handle(), FORMAT);
        CHECKS.due("a request after it", bench.send(Message.debit(5, 20, 3)), 0);
        CHECKS.due("balance", bench.desk.balance(5), 60);
    }
}
