/** Promise 5: reply. */
final class ReplyTest {
    private static final Checks CHECKS = new Checks();

    public static void main(String[] args) {
        everyType();
        fieldsAsTheyAre();
        otherTypes();
        settlements();
        CHECKS.end();
    }

    private static void due(String what, Bench bench, Message sent, Message reply) {
        bench.send(sent);
        CHECKS.due(what, bench.reply(), reply.hex());
    }

    private static Message answered(Message reply, int answer) {
        return reply.raw(39, Message.hexOf(String.format("%02d", answer)));
    }

    private static void everyType() {
        Bench bench = Bench.withOneCard();
        due("0100", bench, Message.hold(5, 10, 1),
            answered(Message.money("0110", "00", 5, 10, 1), 0));
        due("0100 refused", bench, Message.hold(5, 91, 2),
            answered(Message.money("0110", "00", 5, 91, 2), 51));
        due("0200", bench, Message.credit(5, 10, 3),
            answered(Message.money("0210", "20", 5, 10, 3), 0));
        due("0200 refused", bench, Message.credit(6, 10, 4),
            answered(Message.money("0210", "20", 6, 10, 4), 14));
        due("0200 with 48 and 56", bench, Message.debit(5, 9, 5).original(1).note("a note"),
            answered(Message.money("0210", "00", 5, 9, 5), 0));
        due("0400", bench, Message.reversal(5, 6, 9),
            answered(new Message("0410").card(5).trace(6).terminal("TERM"), 25));
        // It is repeated, but the fields are those of this request.
        due("repeated", bench, Message.hold(77, 12, 2).sort("123456"),
            answered(Message.money("0110", "00", 77, 12, 2).sort("123456"), 51));
        CHECKS.due("all bytes", bench.reply(), "0110" + "7020000002800000" + "0277" + "123456"
            + "000000000012" + "000002" + "3531" + "5445524d");
    }

    private static void fieldsAsTheyAre() {
        Bench bench = Bench.withOneCard();
        due("zeros before the card", bench, Message.hold(5, 1, 1).cardDigits("0000005"),
            answered(Message.money("0110", "00", 5, 1, 1).cardDigits("0000005"), 0));
        CHECKS.due("it is card 5", bench.desk.available(5), 99);
        due("16 digits", bench, Message.hold(5, 1, 2).cardDigits("9876543210123456"),
            answered(Message.money("0110", "00", 5, 1, 2).cardDigits("9876543210123456"), 14));
        due("highest digits", bench, Message.money("0200", "99", 5, 999999999999L, 999999)
            .terminal(" ~ ~"), answered(Message.money("0210", "99", 5, 999999999999L, 999999)
            .terminal(" ~ ~"), 12));
    }

    private static void otherTypes() {
        due("0800", Bench.withOneCard(), new Message("0800").trace(1).terminal("TERM"),
            answered(new Message("0810").trace(1).terminal("TERM"), 12));
        due("9909 with all", Bench.withOneCard(),
            Message.money("9909", "00", 5, 7, 1).note("n").original(3),
            answered(Message.money("9919", "00", 5, 7, 1), 12));
        due("0000 with an amount", Bench.withOneCard(),
            new Message("0000").amount(123456789012L).trace(1).terminal("TERM"),
            answered(new Message("0010").amount(123456789012L).trace(1).terminal("TERM"), 12));
        due("0301 with a sort", Bench.withOneCard(), new Message("0301").sort("987654").trace(1)
            .terminal("TERM").original(4),
            answered(new Message("0311").sort("987654").trace(1).terminal("TERM"), 12));
    }

    private static void settlements() {
        Bench bench = Bench.withOneCard();
        due("nothing", bench, Message.settlement(1),
            answered(new Message("0510").amount(0).trace(1).terminal("TERM"), 0));
        bench.send(Message.debit(5, 30, 2));
        due("below 0", bench, Message.settlement(3).note("note"),
            answered(new Message("0510").amount(30).trace(3).terminal("TERM"), 0));
        due("repeated", bench, Message.settlement(3),
            answered(new Message("0510").amount(0).trace(3).terminal("TERM"), 0));
        bench.send(Message.credit(5, 45, 4));
        due("above 0", bench, Message.settlement(5),
            answered(new Message("0510").amount(45).trace(5).terminal("TERM"), 0));
        for (int trace = 10; bench.desk.entries() < 24; trace++) {
            bench.send(Message.credit(5, 1, trace));
        }
        for (int k = 0; k < 8; k++) {
            bench.send(Message.settlement(1).terminal("SET" + k));
        }
        due("96", bench, Message.settlement(6),
            answered(new Message("0510").amount(0).trace(6).terminal("TERM"), 96));
    }
}
