/** Promise 4 at its edges: no request, repeated requests, other types, a full journal. */
final class HandleEdgeTest {
    private static final Checks CHECKS = new Checks();

    public static void main(String[] args) {
        inHasNoneThen();
        noRequestChangesNothing();
        nothingButTheAnswerAgain();
        oneThingDifferent();
        repeatedInAFullJournal();
        typesBesideTheFour();
        otherTypeMakesNoEntry();
        twelveBefore96();
        the24th();
        the32nd();
        answered96IsForgotten();
        anEntryForEachAnswer();
        CHECKS.end();
    }

    /** A desk with a hold, a completed one, a debit and a credit, and what is settled. */
    private static Bench busy() {
        Bench bench = Bench.withTwoCards();
        bench.send(Message.credit(77, 9, 1));
        bench.send(Message.settlement(2));
        bench.send(Message.hold(5, 10, 3));
        bench.send(Message.hold(5, 20, 4));
        bench.send(Message.debit(5, 20, 5).original(4));
        bench.send(Message.debit(5, 30, 6).terminal("ELSE"));
        bench.send(Message.debit(5, 500, 7));
        bench.send(Message.credit(77, 40, 8));
        return bench;
    }

    private static void inHasNoneThen() {
        CHECKS.about("Handles the bytes of IN, and IN has none then");
        Bench bench = Bench.withOneCard();
        CHECKS.due("a request", bench.send(Message.debit(5, 1, 1)), 0);
        CHECKS.due("nothing after it", bench.desk.handle(), 30);
        CHECKS.due("a refused request", bench.send(Message.debit(6, 1, 2)), 14);
        CHECKS.due("nothing after it", bench.desk.handle(), 30);
        CHECKS.due("a repeated request", bench.send(Message.debit(5, 1, 1)), 0);
        CHECKS.due("the first byte then", bench.desk.feed(2, 1), 1);
        CHECKS.due("no request", bench.desk.handle(), 30);
        CHECKS.due("the first byte then", bench.desk.feed(2, 1), 1);
        CHECKS.due("no request", bench.desk.handle(), 30);
        CHECKS.due("a request after it", bench.send(Message.debit(5, 1, 3)), 0);
        CHECKS.due("balance", bench.desk.balance(5), 98);
    }

    private static void noRequestChangesNothing() {
        CHECKS.about("FORMAT, and the reply has no bytes, when it is no request");
        Message[] almost = {Message.hold(5, 1, 20), Message.debit(5, 1, 20),
            Message.debit(5, 1, 20).original(3), Message.credit(5, 1, 20),
            Message.reversal(5, 20, 3), Message.settlement(20), Message.hold(5, 10, 3)};
        for (Message message : almost) {
            Bench bench = busy();
            String before = bench.whole();
            CHECKS.due("reply before", bench.reply().isEmpty(), false);
            CHECKS.due("one byte more", bench.send(message.hex() + "00"), 30);
            CHECKS.due("reply", bench.reply(), "");
            CHECKS.due("one byte less", bench.send(message.hex().substring(2)), 30);
            CHECKS.due("a note of 41", bench.send(message.note("n".repeat(41))), 30);
            CHECKS.due("all that can be seen", bench.whole(), before);
        }
    }

    private static void nothingButTheAnswerAgain() {
        CHECKS.about("its answer is given again, and nothing else happens");
        Message[] messages = {Message.hold(5, 10, 3), Message.hold(5, 20, 4),
            Message.debit(5, 20, 5).original(4), Message.debit(5, 30, 6).terminal("ELSE"),
            Message.debit(5, 500, 7), Message.credit(77, 40, 8), Message.settlement(2)};
        int[] answers = {0, 0, 0, 0, 51, 0, 0};
        Bench bench = busy();
        String before = bench.whole();
        for (int i = 0; i < messages.length; i++) {
            CHECKS.due("again " + i, bench.send(messages[i]), answers[i]);
            CHECKS.due("all that can be seen", bench.whole(), before);
        }
    }

    private static void oneThingDifferent() {
        CHECKS.about("when the journal has an entry with the same type, terminal and trace");
        String[] others = {"UERM", "TFRM", "TESM", "TERN", "term", "MRET", "TER "};
        for (String terminal : others) {
            CHECKS.due("terminal " + terminal,
                busy().send(Message.debit(5, 1, 7).terminal(terminal)), 0);
        }
        for (int trace : new int[] {0, 17, 70, 107, 700000, 999999}) {
            CHECKS.due("trace " + trace, busy().send(Message.debit(5, 1, trace)), 0);
        }
        CHECKS.due("type 0100", busy().send(Message.hold(5, 1, 7)), 0);
        CHECKS.due("type 0400", busy().send(Message.reversal(5, 7, 3)), 0);
        CHECKS.due("type 0500", busy().send(Message.settlement(7)), 0);
        CHECKS.due("all three the same", busy().send(Message.credit(77, 1, 7)), 51);
        Bench bench = Bench.withOneCard();
        CHECKS.due("trace 0", bench.send(Message.debit(5, 101, 0)), 51);
        CHECKS.due("trace 0 again", bench.send(Message.debit(5, 1, 0)), 51);
        CHECKS.due("trace 999999", bench.send(Message.debit(5, 101, 999999)), 51);
        CHECKS.due("trace 999999 again", bench.send(Message.debit(5, 1, 999999)), 51);
        CHECKS.due("entries", bench.desk.entries(), 2);
    }

    private static void repeatedInAFullJournal() {
        CHECKS.about("Otherwise 12 when the type is none of the four; 96 when the journal has");
        Bench bench = Bench.withEntries(24);
        CHECKS.due("the oldest of 24", bench.send(Message.debit(5, 1, 0)), 0);
        CHECKS.due("the latest of 24", bench.send(Message.debit(5, 1, 23)), 0);
        bench = Bench.withEntries(32);
        CHECKS.due("the oldest of 32", bench.send(Message.debit(5, 1, 0)), 0);
        CHECKS.due("the latest of 32", bench.send(Message.settlement(31).terminal("SE31")), 0);
        CHECKS.due("entries", bench.desk.entries(), 32);
        CHECKS.due("balance", bench.desk.balance(5), 76);
    }

    private static void typesBesideTheFour() {
        CHECKS.about("12 when the type is none of the four");
        String[] types = {"0000", "0001", "0101", "0102", "0109", "0201", "0209", "0300", "0401",
            "0409", "0501", "0509", "0600", "0900", "1000", "1100", "1200", "2000", "4000", "5000",
            "5500", "9900", "9909"};
        for (String type : types) {
            CHECKS.due(type, Bench.withOneCard().send(Message.money(type, "00", 5, 1, 1)), 12);
            CHECKS.due(type + ", no such card",
                Bench.withOneCard().send(Message.money(type, "00", 6, 1, 1)), 12);
            CHECKS.due(type + ", no fields", Bench.withOneCard().send(
                new Message(type).trace(1).terminal("TERM")), 12);
        }
    }

    private static void otherTypeMakesNoEntry() {
        CHECKS.about("In all other cases a new entry is made at the end");
        Bench bench = busy();
        String before = bench.whole();
        CHECKS.due("0101", bench.send(Message.money("0101", "00", 5, 1, 20)), 12);
        CHECKS.due("0101 again", bench.send(Message.money("0101", "00", 5, 1, 20)), 12);
        CHECKS.due("0201", bench.send(Message.money("0201", "20", 5, 1, 20)), 12);
        CHECKS.due("0401", bench.send(
            new Message("0401").card(5).trace(20).terminal("TERM").original(3)), 12);
        CHECKS.due("0501", bench.send(new Message("0501").trace(20).terminal("TERM")), 12);
        CHECKS.due("all that can be seen", bench.whole(), before);
    }

    private static void twelveBefore96() {
        CHECKS.about("12 when the type is none of the four; 96 when the journal has");
        for (int entries : new int[] {23, 24, 25, 31, 32}) {
            Bench bench = Bench.withEntries(entries);
            CHECKS.due("0800 at " + entries,
                bench.send(new Message("0800").trace(99).terminal("TERM")), 12);
            CHECKS.due("entries", bench.desk.entries(), entries);
        }
    }

    private static void the24th() {
        CHECKS.about("96 when the journal has 24 entries or more");
        for (int entries = 22; entries <= 32; entries++) {
            int want = entries < 24 ? 0 : 96;
            Message[] messages = {Message.hold(5, 1, 90), Message.debit(5, 1, 90),
                Message.credit(5, 1, 90), Message.reversal(5, 90, 3)};
            for (Message message : messages) {
                Bench bench = Bench.withEntries(entries);
                CHECKS.due(message.hex() + " at " + entries, bench.send(message), want);
                CHECKS.due("entries", bench.desk.entries(), want == 0 ? entries + 1 : entries);
            }
            // The answer that it would have had otherwise says nothing.
            CHECKS.due("no such card", Bench.withEntries(entries).send(Message.hold(6, 1, 90)),
                entries < 24 ? 14 : 96);
            CHECKS.due("bad sort", Bench.withEntries(entries).send(
                Message.money("0200", "01", 5, 1, 90)), entries < 24 ? 12 : 96);
        }
        Bench bench = Bench.withEntries(24);
        String before = bench.whole();
        bench.send(Message.hold(5, 1, 90));
        bench.send(Message.debit(5, 1, 90));
        bench.send(Message.reversal(5, 90, 3));
        CHECKS.due("all that can be seen", bench.whole(), before);
    }

    private static void the32nd() {
        CHECKS.about("(for the type 0500: 32)");
        for (int entries = 22; entries <= 32; entries++) {
            Bench bench = Bench.withEntries(entries);
            boolean full = entries == 32;
            CHECKS.due("new terminal at " + entries,
                bench.send(Message.settlement(90).terminal("NEW1")), full ? 96 : 0);
            CHECKS.due("entries", bench.desk.entries(), full ? 32 : entries + 1);
            bench = Bench.withEntries(entries);
            CHECKS.due("TERM at " + entries, bench.send(Message.settlement(90)), full ? 96 : 0);
            CHECKS.due("entries", bench.desk.entries(),
                full ? 32 : Math.max(0, entries - 24) + 1);
            CHECKS.due("settled", bench.desk.settled(), full ? 0 : -Math.min(24, entries));
        }
        Bench bench = Bench.withEntries(32);
        String before = bench.whole();
        bench.send(Message.settlement(90));
        bench.send(Message.settlement(90).terminal("SE31"));
        CHECKS.due("all that can be seen", bench.whole(), before);
    }

    private static void answered96IsForgotten() {
        CHECKS.about("In all other cases a new entry is made at the end");
        Bench bench = Bench.withEntries(24);
        CHECKS.due("at 24", bench.send(Message.debit(5, 1, 90).terminal("ELSE")), 96);
        CHECKS.due("a settlement", bench.send(Message.settlement(91)), 0);
        CHECKS.due("the same again", bench.send(Message.debit(5, 1, 90).terminal("ELSE")), 0);
        CHECKS.due("traces", bench.column(1), "91 90");
        CHECKS.due("balance", bench.desk.balance(5), 75);
    }

    private static void anEntryForEachAnswer() {
        CHECKS.about("In all other cases a new entry is made at the end, with the answer");
        Bench bench = Bench.withOneCard();
        Message[] messages = {Message.hold(6, 1, 1), Message.money("0100", "20", 5, 1, 2),
            Message.hold(5, 101, 3), Message.hold(5, 1, 4), Message.debit(6, 1, 5),
            Message.money("0200", "10", 5, 1, 6), Message.credit(5, 1, 7).original(4),
            Message.debit(5, 1, 8).original(1), Message.debit(5, 2, 9).original(4),
            Message.debit(5, 100, 10), Message.credit(5, 1, 11), Message.reversal(6, 12, 4),
            Message.reversal(5, 13, 1), Message.reversal(5, 14, 4)};
        int[] answers = {14, 12, 51, 0, 14, 12, 12, 25, 51, 51, 0, 14, 25, 0};
        for (int k = 0; k < messages.length; k++) {
            CHECKS.due("handle of " + messages[k].hex(), bench.send(messages[k]), answers[k]);
            CHECKS.due("entries", bench.desk.entries(), k + 1);
            CHECKS.due("trace", bench.desk.entry(k, 1), k + 1);
            CHECKS.due("answer", bench.desk.entry(k, 2), answers[k]);
        }
    }
}
