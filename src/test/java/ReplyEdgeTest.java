/** Promise 5 at its edges, and what the reply has. */
final class ReplyEdgeTest {
    private static final Checks CHECKS = new Checks();
    private static final long MOST = 999999999999L;

    public static void main(String[] args) {
        noneBeforeTheFirst();
        noneOutsideTheReply();
        noneAfterNoRequest();
        nothingOfALongerOne();
        staysUntilTheNextHandle();
        bytesAbove127();
        thirdDigit();
        fieldsThatTheRequestHas();
        asTheyAreThere();
        answersAsTwoDigits();
        sizeOfTheNet();
        lastTwelveDigitsOfMany();
        nothingIsSettled();
        CHECKS.end();
    }

    private static void reply(Bench bench, int i, int want) {
        CHECKS.due("reply(" + i + ")", bench.desk.reply(i), want);
    }

    private static void noneOutside(Bench bench, int length) {
        int[] outside = {-1, -2, length, length + 1, 37, 38, 119, 120, 255, Integer.MIN_VALUE,
            Integer.MAX_VALUE};
        for (int i : outside) {
            reply(bench, i, -1);
        }
    }

    private static void noneBeforeTheFirst() {
        CHECKS.about("NONE when there is none");
        Bench bench = new Bench();
        reply(bench, 0, -1);
        noneOutside(bench, 0);
        bench.feed(Message.settlement(1).hex());
        reply(bench, 0, -1);
    }

    /** The shortest reply has 19 bytes, the longest has 37. */
    private static void noneOutsideTheReply() {
        CHECKS.about("Byte i (from 0) of the latest reply; NONE when there is none");
        Message shortest = new Message("0800").trace(123456).terminal("TERM").note("a note");
        for (int length = 0; length <= 16; length++) {
            Message message = length == 0 ? shortest
                : Message.hold(5, 1, 123456).cardDigits("7".repeat(length)).note("a note");
            Bench bench = Bench.withOneCard();
            bench.send(message);
            int last = length == 0 ? 18 : 28 + (length + 1) / 2;
            reply(bench, 0, length == 0 ? 8 : 1);
            reply(bench, 1, 16);
            reply(bench, last - 1, 'R');
            reply(bench, last, 'M');
            noneOutside(bench, last + 1);
        }
    }

    private static void noneAfterNoRequest() {
        CHECKS.about("FORMAT, and the reply has no bytes, when it is no request");
        Bench bench = Bench.withOneCard();
        bench.send(Message.hold(5, 1, 1));
        CHECKS.due("no bytes", bench.desk.handle(), 30);
        reply(bench, 0, -1);
        noneOutside(bench, 0);
        bench.send(Message.hold(5, 1, 2));
        CHECKS.due("one byte more", bench.send(Message.hold(5, 1, 3).hex() + "00"), 30);
        reply(bench, 0, -1);
        noneOutside(bench, 0);
    }

    private static void nothingOfALongerOne() {
        CHECKS.about("of the latest reply");
        Bench bench = Bench.withOneCard();
        bench.send(Message.hold(9999999999999999L, 1, 1));
        reply(bench, 36, 'M');
        bench.send(new Message("0800").trace(2).terminal("ABCD"));
        CHECKS.due("the shorter one", bench.reply(), "0810" + "0020000002800000" + "000002"
            + "3132" + "41424344");
        noneOutside(bench, 19);
    }

    private static void staysUntilTheNextHandle() {
        CHECKS.about("of the latest reply");
        Bench bench = Bench.withOneCard();
        bench.send(Message.debit(5, 1, 1));
        String reply = bench.reply();
        bench.feed(Message.settlement(2).hex());
        bench.desk.feed(0, 9);
        bench.desk.tick(50);
        bench.desk.tick(-1);
        bench.desk.open(9, 9);
        bench.desk.open(9, 9);
        bench.whole();
        CHECKS.due("after other calls", bench.reply(), reply);
        bench.desk.handle();
        CHECKS.due("after the next handle", bench.reply().equals(reply), false);
    }

    private static void bytesAbove127() {
        CHECKS.about("BYTES are 0 .. 255");
        Bench bench = Bench.withOneCard();
        bench.send(Message.money("9909", "00", 99, 808080808080L, 999999));
        reply(bench, 0, 0x99);
        reply(bench, 1, 0x19);
        reply(bench, 7, 0x80);
        reply(bench, 11, 0x99);
        reply(bench, 15, 0x80);
        reply(bench, 23, 0x99);
    }

    private static void thirdDigit() {
        CHECKS.about("THE REPLY has the type with 1 as its third digit");
        String[] types = {"0000", "0001", "0009", "0101", "0800", "0909", "1000", "9009", "9900",
            "9909"};
        for (String type : types) {
            Bench bench = Bench.withOneCard();
            bench.send(new Message(type).trace(1).terminal("TERM"));
            CHECKS.due("reply to " + type, bench.reply().substring(0, 4),
                type.substring(0, 2) + "1" + type.substring(3));
        }
        String[] four = {"0110", "0210", "0410", "0510"};
        Message[] messages = {Message.hold(5, 1, 1), Message.debit(5, 1, 1),
            Message.reversal(5, 1, 1), Message.settlement(1)};
        for (int k = 0; k < four.length; k++) {
            Bench bench = Bench.withOneCard();
            bench.send(messages[k]);
            CHECKS.due("type of the reply", bench.reply().substring(0, 4), four[k]);
        }
    }

    /** Every set of the fields that a request of another type may have. */
    private static void fieldsThatTheRequestHas() {
        CHECKS.about("the fields 2, 3, 4, 11, 41 that the request has, as they are there");
        for (int set = 0; set < 32; set++) {
            Message message = new Message("0300").trace(123456).terminal("TERM");
            Message reply = new Message("0310").trace(123456).raw(39, "3132").terminal("TERM");
            if ((set & 1) != 0) {
                message.card(12345);
                reply.card(12345);
            }
            if ((set & 2) != 0) {
                message.sort("654321");
                reply.sort("654321");
            }
            if ((set & 4) != 0) {
                message.amount(987654321098L);
                reply.amount(987654321098L);
            }
            if ((set & 8) != 0) {
                message.note("a note");
            }
            if ((set & 16) != 0) {
                message.original(5);
            }
            Bench bench = Bench.withOneCard();
            bench.send(message);
            CHECKS.due("reply to " + message.hex(), bench.reply(), reply.hex());
        }
    }

    private static void asTheyAreThere() {
        CHECKS.about("as they are there");
        for (int length = 1; length <= 16; length++) {
            String digits = "0".repeat(length - 1) + "5";
            Bench bench = Bench.withOneCard();
            bench.send(Message.hold(5, 0, 0).cardDigits(digits).sort("000000").terminal("    "));
            CHECKS.due("card of " + length, bench.reply(), Message.money("0110", "00", 5, 0, 0)
                .cardDigits(digits).raw(39, "3030").terminal("    ").hex());
        }
        Bench bench = Bench.withOneCard();
        bench.send(Message.debit(5, MOST, 999999).sort("009999").terminal("~~~~"));
        CHECKS.due("highest digits", bench.reply(), Message.money("0210", "00", 5, MOST, 999999)
            .sort("009999").terminal("~~~~").raw(39, "3531").hex());
        // A repeated request is answered with its own fields, not with those of the entry.
        bench.send(Message.credit(77, 3, 999999).terminal("~~~~"));
        CHECKS.due("repeated", bench.reply(), Message.money("0210", "20", 77, 3, 999999)
            .terminal("~~~~").raw(39, "3531").hex());
    }

    private static void answersAsTwoDigits() {
        CHECKS.about("39 with the answer as two digits");
        Bench bench = Bench.withOneCard();
        answerOf(bench, Message.hold(5, 1, 1), "00");
        answerOf(bench, Message.hold(5, 1, 1).sort("010000"), "00");
        answerOf(bench, Message.hold(5, 1, 2).sort("010000"), "12");
        answerOf(bench, Message.hold(6, 1, 3), "14");
        answerOf(bench, Message.debit(5, 1, 4).original(9), "25");
        answerOf(bench, Message.debit(5, 101, 5), "51");
        answerOf(bench, Message.settlement(6), "00");
        answerOf(Bench.withEntries(24), Message.debit(5, 1, 99), "96");
        answerOf(Bench.withEntries(32), Message.settlement(99), "96");
    }

    private static void answerOf(Bench bench, Message message, String want) {
        CHECKS.due("handle", bench.send(message), Integer.parseInt(want));
        String reply = bench.reply();
        int end = reply.length() - 8;
        CHECKS.due("field 39", reply.substring(end - 4, end), Message.hexOf(want));
    }

    /** A desk whose terminal has this net, by credits or by debits of at most 12 digits. */
    private static Bench withNet(long net) {
        Bench bench = Bench.withCard(1000000000000L);
        bench.send(Message.credit(5, MOST, 1).terminal("ELSE"));
        bench.send(Message.credit(5, MOST, 2).terminal("ELSE"));
        long left = Math.abs(net);
        for (int trace = 1; left > 0; trace++) {
            long part = Math.min(left, MOST);
            bench.send(net < 0 ? Message.debit(5, part, trace) : Message.credit(5, part, trace));
            left -= part;
        }
        return bench;
    }

    private static void settled(Bench bench, int trace, String amount, int answer) {
        CHECKS.due("settlement", bench.send(Message.settlement(trace)), answer);
        Message reply = new Message("0510").raw(4, amount).trace(trace)
            .raw(39, answer == 0 ? "3030" : "3936").terminal("TERM");
        CHECKS.due("its reply", bench.reply(), reply.hex());
    }

    private static void sizeOfTheNet() {
        CHECKS.about("with the size of the net that is settled (without its sign");
        for (int sign = -1; sign <= 1; sign += 2) {
            settled(withNet(0), 99, "000000000000", 0);
            settled(withNet(sign * 1L), 99, "000000000001", 0);
            settled(withNet(sign * 120340056007L), 99, "120340056007", 0);
            settled(withNet(sign * (MOST - 1)), 99, "999999999998", 0);
            settled(withNet(sign * MOST), 99, "999999999999", 0);
        }
        CHECKS.about("its last 12 digits");
        for (int sign = -1; sign <= 1; sign += 2) {
            settled(withNet(sign * 1000000000000L), 99, "000000000000", 0);
            settled(withNet(sign * 1000000000001L), 99, "000000000001", 0);
            settled(withNet(sign * 1999999999999L), 99, "999999999999", 0);
            settled(withNet(sign * 2000000000000L), 99, "000000000000", 0);
            settled(withNet(sign * 2100000000009L), 99, "100000000009", 0);
        }
    }

    private static void lastTwelveDigitsOfMany() {
        CHECKS.about("its last 12 digits");
        Bench bench = Bench.withOneCard();
        for (int trace = 1; trace <= 24; trace++) {
            bench.send(Message.credit(5, MOST, trace));
        }
        settled(bench, 99, "999999999976", 0);
        CHECKS.due("settled", bench.desk.settled(), 24 * MOST);
        for (int trace = 1; trace <= 23; trace++) {
            bench.send(Message.debit(5, MOST, trace));
        }
        settled(bench, 98, "999999999977", 0);
        CHECKS.due("settled", bench.desk.settled(), MOST);
    }

    private static void nothingIsSettled() {
        CHECKS.about("0 when nothing is, as it is repeated or answered 96");
        Bench bench = Bench.withOneCard();
        bench.send(Message.debit(5, 30, 1));
        settled(bench, 2, "000000000030", 0);
        settled(bench, 2, "000000000000", 0);
        bench.send(Message.debit(5, 30, 3));
        settled(bench, 2, "000000000000", 0);
        settled(bench, 4, "000000000030", 0);
        settled(Bench.withEntries(32), 99, "000000000000", 96);
        settled(Bench.withEntries(31), 99, "000000000024", 0);
    }
}
