/** Promise 4 at its edges: what is answered to each of the four types. */
final class AnswerEdgeTest {
    private static final Checks CHECKS = new Checks();
    private static final long MOST = 999999999999L;

    public static void main(String[] args) {
        noSuchCard();
        holdSorts();
        moneySorts();
        creditsThatNameAnOriginal();
        amountAndAvailable();
        nothingAndBelowNothing();
        availableCountsHoldsOnce();
        amountAndHold();
        completionAndAvailable();
        holdsThatAreNone();
        credits();
        reversalFindsNone();
        leastAndMostTrace();
        lastInTheJournal();
        reversedOnce();
        reversedAmounts();
        settlementAlways();
        takenOut();
        settledTwice();
        CHECKS.end();
    }

    private static void due(String what, Bench bench, Message message, int want) {
        CHECKS.due(what + " " + message.hex(), bench.send(message), want);
    }

    private static void noSuchCard() {
        CHECKS.about("14 there is no such card");
        long[] missing = {0, 1, 4, 6, 50, 55, 77, 5000000000000000L, 9999999999999999L};
        for (long card : missing) {
            due("hold", Bench.withOneCard(), Message.hold(card, 0, 1), 14);
            due("hold of too much", Bench.withOneCard(), Message.hold(card, MOST, 1), 14);
            due("hold of a bad sort", Bench.withOneCard(),
                Message.hold(card, 1, 1).sort("990000"), 14);
            due("debit", Bench.withOneCard(), Message.debit(card, 0, 1), 14);
            due("credit", Bench.withOneCard(), Message.credit(card, 1, 1), 14);
            due("credit with 56", Bench.withOneCard(), Message.credit(card, 1, 1).original(1), 14);
            due("completion", Bench.withOneCard(), Message.debit(card, 1, 1).original(1), 14);
            due("reversal", Bench.withOneCard(), Message.reversal(card, 1, 1), 14);
        }
        due("no card at all", new Bench(), Message.hold(5, 0, 1), 14);
        Bench bench = new Bench();
        for (int card = 1; card <= 7; card++) {
            bench.desk.open(card, 10);
        }
        due("the sixth card", bench, Message.debit(6, 10, 1), 0);
        due("the seventh, which was refused", bench, Message.debit(7, 0, 2), 14);
    }

    private static void holdSorts() {
        CHECKS.about("12 the first two digits of the sort are not 00");
        for (int kind = 0; kind < 100; kind++) {
            for (String rest : new String[] {"0000", "0001", "9999", "2000"}) {
                String sort = String.format("%02d", kind) + rest;
                due("sort", Bench.withOneCard(), Message.hold(5, 1, 1).sort(sort),
                    kind == 0 ? 0 : 12);
                due("too much", Bench.withOneCard(), Message.hold(5, 101, 1).sort(sort),
                    kind == 0 ? 51 : 12);
            }
        }
    }

    private static void moneySorts() {
        CHECKS.about("12 the first two digits of the sort are neither 00 (a DEBIT) nor 20 "
            + "(a CREDIT)");
        for (int kind = 0; kind < 100; kind++) {
            for (String rest : new String[] {"0000", "0001", "9999", "2000"}) {
                String sort = String.format("%02d", kind) + rest;
                Bench bench = Bench.withOneCard();
                due("sort", bench, Message.debit(5, 1, 1).sort(sort),
                    kind == 0 || kind == 20 ? 0 : 12);
                CHECKS.due("balance", bench.desk.balance(5),
                    kind == 0 ? 99 : kind == 20 ? 101 : 100);
            }
        }
    }

    private static void creditsThatNameAnOriginal() {
        CHECKS.about("or it is a credit with field 56");
        Bench bench = Bench.withOneCard();
        bench.send(Message.hold(5, 10, 1));
        bench.send(Message.debit(5, 10, 2));
        due("a hold's trace", bench, Message.credit(5, 1, 3).original(1), 12);
        due("a debit's trace", bench, Message.credit(5, 1, 4).original(2), 12);
        due("no entry's trace", bench, Message.credit(5, 1, 5).original(0), 12);
        due("a bad sort with a hold's trace", bench,
            Message.debit(5, 1, 6).sort("010000").original(1), 12);
        CHECKS.due("balance", bench.desk.balance(5), 90);
        CHECKS.due("states", bench.states(), "1 0 0 0 0 0");
    }

    private static void amountAndAvailable() {
        CHECKS.about("51 the amount is more than what is available");
        long[] balances = {0, 1, 2, 100, MOST - 1, MOST, MOST + 1};
        for (long balance : balances) {
            for (long amount = Math.max(0, balance - 1); amount <= Math.min(MOST, balance + 1);
                    amount++) {
                int want = amount > balance ? 51 : 0;
                Bench held = Bench.withCard(balance);
                due("hold", held, Message.hold(5, amount, 1), want);
                CHECKS.due("balance", held.desk.balance(5), balance);
                CHECKS.due("available", held.desk.available(5), balance - (want == 0 ? amount : 0));
                CHECKS.due("hold's state", held.desk.entry(0, 3), want == 0 ? 1 : 0);
                Bench taken = Bench.withCard(balance);
                due("debit", taken, Message.debit(5, amount, 1), want);
                CHECKS.due("balance", taken.desk.balance(5), balance - (want == 0 ? amount : 0));
            }
        }
    }

    /** What is available can be below 0: then even nothing is more. */
    private static void nothingAndBelowNothing() {
        CHECKS.about("51 the amount is more than what is available");
        Bench bench = Bench.withCard(0);
        due("hold of nothing", bench, Message.hold(5, 0, 1), 0);
        due("debit of nothing", bench, Message.debit(5, 0, 2), 0);
        due("hold of 1", bench, Message.hold(5, 1, 3), 51);
        due("credit of 1", bench, Message.credit(5, 1, 4), 0);
        due("debit of 1", bench, Message.debit(5, 1, 5), 0);
        due("the credit is reversed", bench, Message.reversal(5, 6, 4), 0);
        CHECKS.due("available", bench.desk.available(5), -1);
        due("hold of nothing", bench, Message.hold(5, 0, 7), 51);
        due("debit of nothing", bench, Message.debit(5, 0, 8), 51);
        due("completion by nothing", bench, Message.debit(5, 0, 9).original(1), 0);
        due("credit of 1", bench, Message.credit(5, 1, 10), 0);
        due("debit of nothing", bench, Message.debit(5, 0, 11), 0);
    }

    private static void availableCountsHoldsOnce() {
        CHECKS.about("what is AVAILABLE is that less the amounts of its HOLDS");
        Bench bench = Bench.withOneCard();
        due("hold", bench, Message.hold(5, 40, 1), 0);
        due("hold by another terminal", bench, Message.hold(5, 59, 1).terminal("ELSE"), 0);
        due("refused hold", bench, Message.hold(5, 2, 2), 51);
        due("the rest", bench, Message.debit(5, 1, 3), 0);
        due("no more", bench, Message.debit(5, 1, 4), 51);
        due("a hold is completed", bench, Message.debit(5, 39, 5).original(1), 0);
        CHECKS.due("available", bench.desk.available(5), 1);
        due("what it left", bench, Message.hold(5, 2, 6), 51);
        due("what it left", bench, Message.hold(5, 1, 7), 0);
        CHECKS.due("balance", bench.desk.balance(5), 60);
        CHECKS.due("available", bench.desk.available(5), 0);
    }

    private static void amountAndHold() {
        CHECKS.about("51 its amount is more than the hold's");
        long[] held = {0, 1, 60, MOST - 1, MOST};
        for (long hold : held) {
            for (long amount = Math.max(0, hold - 1); amount <= Math.min(MOST, hold + 1);
                    amount++) {
                boolean more = amount > hold;
                Bench bench = Bench.withCard(MOST + 1);
                bench.send(Message.hold(5, hold, 1));
                due("completion", bench, Message.debit(5, amount, 2).original(1), more ? 51 : 0);
                CHECKS.due("states", bench.states(), more ? "1 0" : "2 0");
                CHECKS.due("balance", bench.desk.balance(5), MOST + 1 - (more ? 0 : amount));
                CHECKS.due("available", bench.desk.available(5), MOST + 1 - (more ? hold : amount));
                CHECKS.due("amount(0)", bench.desk.amount(0), hold);
            }
        }
    }

    /** The hold alone says whether it may be completed, not what is available. */
    private static void completionAndAvailable() {
        CHECKS.about("0, the hold is completed, and the amount is taken from the balance");
        Bench bench = Bench.withOneCard();
        bench.send(Message.hold(5, 100, 1));
        CHECKS.due("available", bench.desk.available(5), 0);
        due("all of it", bench, Message.debit(5, 100, 2).original(1), 0);
        CHECKS.due("balance", bench.desk.balance(5), 0);
        due("once more", bench, Message.debit(5, 0, 3).original(1), 25);
        bench = Bench.withOneCard();
        bench.send(Message.hold(5, 60, 1));
        due("too much, though it is available", bench, Message.debit(5, 61, 2).original(1), 51);
        due("it is a hold still", bench, Message.debit(5, 60, 3).original(1), 0);
    }

    private static void holdsThatAreNone() {
        CHECKS.about("25 there is no hold with that trace of the same terminal and card");
        Bench bench = Bench.withTwoCards();
        bench.send(Message.hold(5, 10, 1));
        bench.send(Message.hold(5, 101, 2));
        bench.send(Message.debit(5, 10, 3));
        bench.send(Message.hold(5, 10, 4));
        bench.send(Message.reversal(5, 5, 4));
        bench.send(Message.hold(77, 10, 6));
        bench.send(Message.hold(5, 10, 7).terminal("ELSE"));
        String before = bench.states();
        due("no entry", bench, Message.debit(5, 1, 11).original(0), 25);
        due("a refused hold", bench, Message.debit(5, 1, 12).original(2), 25);
        due("a debit", bench, Message.debit(5, 1, 13).original(3), 25);
        due("a reversed hold", bench, Message.debit(5, 1, 14).original(4), 25);
        due("a reversal", bench, Message.debit(5, 1, 15).original(5), 25);
        due("another card's hold", bench, Message.debit(5, 1, 16).original(6), 25);
        due("another terminal's hold", bench, Message.debit(5, 1, 17).original(7), 25);
        due("its own trace", bench, Message.debit(5, 1, 18).original(18), 25);
        due("25 before 51", bench, Message.debit(5, MOST, 19).original(2), 25);
        CHECKS.due("states", bench.states(), before + " 0 0 0 0 0 0 0 0 0");
        CHECKS.due("balance", bench.desk.balance(5), 90);
    }

    private static void credits() {
        CHECKS.about("A credit: 0, and the amount is added to the balance");
        Bench bench = Bench.withCard(1000000000000L);
        due("nothing", bench, Message.credit(5, 0, 1), 0);
        CHECKS.due("balance", bench.desk.balance(5), 1000000000000L);
        due("1 more than a card is opened with", bench, Message.credit(5, 1, 2), 0);
        CHECKS.due("balance", bench.desk.balance(5), 1000000000001L);
        for (int trace = 3; trace <= 24; trace++) {
            due("the most", bench, Message.credit(5, MOST, trace), 0);
        }
        CHECKS.due("balance", bench.desk.balance(5), 22999999999979L);
        CHECKS.due("available", bench.desk.available(5), 22999999999979L);
    }

    private static void reversalFindsNone() {
        CHECKS.about("25 when no entry of type 0100 that is a hold, and no entry of type 0200 with "
            + "the answer 0 that is not reversed, has the trace that field 56 tells");
        Bench bench = Bench.withTwoCards();
        due("an empty journal", bench, Message.reversal(5, 30, 30), 25);
        bench.send(Message.hold(5, 101, 1));
        bench.send(Message.money("0100", "20", 5, 1, 2));
        bench.send(Message.debit(5, 101, 3));
        bench.send(Message.money("0200", "10", 5, 1, 4));
        bench.send(Message.hold(5, 10, 5));
        bench.send(Message.debit(5, 10, 6).original(5));
        bench.send(Message.hold(6, 1, 7));
        for (int original : new int[] {0, 1, 2, 3, 4, 5, 7, 8, 30, 999999}) {
            due("reversal", bench, Message.reversal(5, 40 + original % 50, original), 25);
        }
        due("another card", bench, Message.reversal(77, 31, 6), 25);
        due("another terminal", bench, Message.reversal(5, 32, 6).terminal("ELSE"), 25);
        CHECKS.due("balance", bench.desk.balance(5), 90);
        due("the completing debit", bench, Message.reversal(5, 33, 6), 0);
        CHECKS.due("balance", bench.desk.balance(5), 100);
    }

    private static void leastAndMostTrace() {
        CHECKS.about("has the trace that field 56 tells, and the same terminal and card");
        for (int trace : new int[] {0, 1, 9, 99999, 100000, 999998, 999999}) {
            int beside = trace == 0 ? 1 : trace - 1;
            Bench bench = Bench.withOneCard();
            bench.send(Message.hold(5, 10, trace));
            due("beside it", bench, Message.debit(5, 10, 500).original(beside), 25);
            due("completion", bench, Message.debit(5, 10, 501).original(trace), 0);
            bench.send(Message.debit(5, 10, trace));
            due("beside it", bench, Message.reversal(5, 502, beside), 25);
            due("reversal", bench, Message.reversal(5, 503, trace), 0);
            CHECKS.due("balance", bench.desk.balance(5), 90);
        }
    }

    private static void lastInTheJournal() {
        CHECKS.about("of these entries the one that stands last in the journal is reversed");
        Bench bench = Bench.withOneCard();
        bench.send(Message.hold(5, 1, 1));
        bench.send(Message.debit(5, 2, 1));
        due("both stand", bench, Message.reversal(5, 2, 1), 0);
        CHECKS.due("states", bench.states(), "1 3 0");
        due("the hold is left", bench, Message.reversal(5, 3, 1), 0);
        CHECKS.due("states", bench.states(), "3 3 0 0");
        due("none is left", bench, Message.reversal(5, 4, 1), 25);
        bench = Bench.withOneCard();
        bench.send(Message.credit(5, 2, 1));
        bench.send(Message.hold(5, 1, 1));
        due("the hold stands last", bench, Message.reversal(5, 2, 1), 0);
        CHECKS.due("states", bench.states(), "0 3 0");
        due("the credit is left", bench, Message.reversal(5, 3, 1), 0);
        CHECKS.due("states", bench.states(), "3 3 0 0");
        CHECKS.due("balance", bench.desk.balance(5), 100);
        bench = Bench.withOneCard();
        bench.send(Message.credit(5, 2, 1));
        bench.send(Message.hold(5, 1, 1));
        bench.desk.tick(50);
        due("the hold is none any more", bench, Message.reversal(5, 2, 1), 0);
        CHECKS.due("states", bench.states(), "3 0 0");
        bench = Bench.withOneCard();
        bench.send(Message.debit(5, 2, 1));
        bench.send(Message.hold(5, 101, 1));
        due("the hold was refused", bench, Message.reversal(5, 2, 1), 0);
        CHECKS.due("states", bench.states(), "3 0 0");
        // Trace 1 was a debit before the batch; what stands now is the hold that was kept.
        bench = Bench.withOneCard();
        bench.send(Message.hold(5, 1, 1));
        bench.send(Message.debit(5, 2, 1));
        bench.send(Message.settlement(9));
        due("the debit is taken out", bench, Message.reversal(5, 2, 1), 0);
        CHECKS.due("states", bench.states(), "3 0 0");
        CHECKS.due("balance", bench.desk.balance(5), 98);
    }

    private static void reversedOnce() {
        CHECKS.about("no entry of type 0200 with the answer 0 that is not reversed");
        Bench bench = Bench.withOneCard();
        bench.send(Message.debit(5, 30, 1));
        due("reversal", bench, Message.reversal(5, 2, 1), 0);
        due("the same reversal", bench, Message.reversal(5, 2, 1), 0);
        due("another reversal", bench, Message.reversal(5, 3, 1), 25);
        due("a reversal of the reversal", bench, Message.reversal(5, 4, 2), 25);
        due("the debit repeated", bench, Message.debit(5, 30, 1), 0);
        CHECKS.due("states", bench.states(), "3 0 0 0");
        CHECKS.due("balance", bench.desk.balance(5), 100);
    }

    private static void reversedAmounts() {
        CHECKS.about("a debit's amount is added to the balance, a credit's taken from it");
        for (long amount : new long[] {0, 1, 100, MOST}) {
            Bench bench = Bench.withCard(MOST);
            bench.send(Message.debit(5, amount, 1));
            due("a debit", bench, Message.reversal(5, 2, 1), 0);
            CHECKS.due("balance", bench.desk.balance(5), MOST);
            bench.send(Message.credit(5, amount, 3));
            bench.send(Message.debit(5, MOST, 4));
            due("a credit", bench, Message.reversal(5, 5, 3), 0);
            CHECKS.due("balance", bench.desk.balance(5), 0);
            bench.send(Message.credit(5, amount, 6));
            bench.send(Message.debit(5, amount, 7));
            due("a credit that was spent", bench, Message.reversal(5, 8, 6), 0);
            CHECKS.due("balance", bench.desk.balance(5), -amount);
        }
        CHECKS.about("or REVERSED");
        Bench bench = Bench.withOneCard();
        bench.send(Message.hold(5, 100, 1));
        due("a hold", bench, Message.reversal(5, 2, 1), 0);
        CHECKS.due("balance", bench.desk.balance(5), 100);
        CHECKS.due("available", bench.desk.available(5), 100);
    }

    private static void settlementAlways() {
        CHECKS.about("0500: 0, always");
        due("no card", new Bench(), Message.settlement(0), 0);
        due("no entry", Bench.withOneCard(), Message.settlement(999999), 0);
        due("another terminal's entries", Bench.withEntries(5),
            Message.settlement(1).terminal("ELSE"), 0);
        due("its own entries", Bench.withEntries(5), Message.settlement(1), 0);
        due("31 entries", Bench.withEntries(31), Message.settlement(1), 0);
    }

    private static void takenOut() {
        CHECKS.about("all entries of the terminal that are no holds are taken out of the journal, "
            + "before the new entry is made");
        Bench bench = Bench.withOneCard();
        bench.send(Message.hold(5, 1, 1));
        bench.desk.tick(50);
        bench.send(Message.hold(5, 2, 2));
        bench.send(Message.debit(5, 3, 3).terminal("ELSE"));
        bench.send(Message.hold(5, 4, 4));
        bench.send(Message.debit(5, 4, 5).original(4));
        bench.send(Message.hold(5, 6, 6).terminal("ELSE"));
        bench.send(Message.hold(5, 7, 7));
        bench.send(Message.reversal(5, 8, 7));
        bench.send(Message.hold(5, 101, 9));
        bench.send(Message.hold(5, 10, 10));
        CHECKS.due("states", bench.states(), "0 1 0 2 0 1 3 0 0 1");
        due("settlement", bench, Message.settlement(11), 0);
        CHECKS.due("traces", bench.column(1), "2 3 6 10 11");
        CHECKS.due("states", bench.states(), "1 0 1 1 0");
        CHECKS.due("settled", bench.desk.settled(), -4);
        due("the next one", bench, Message.settlement(12), 0);
        CHECKS.due("traces", bench.column(1), "2 3 6 10 12");
        due("the other terminal's", bench, Message.settlement(11).terminal("ELSE"), 0);
        CHECKS.due("traces", bench.column(1), "2 6 10 12 11");
        CHECKS.due("balance", bench.desk.balance(5), 93);
        CHECKS.due("available", bench.desk.available(5), 75);
    }

    private static void settledTwice() {
        CHECKS.about("The net is settled: it is added to what is SETTLED");
        Bench bench = Bench.withOneCard();
        bench.send(Message.debit(5, 30, 1));
        due("settlement", bench, Message.settlement(2), 0);
        due("the same again", bench, Message.settlement(2), 0);
        due("another", bench, Message.settlement(3), 0);
        CHECKS.due("settled", bench.desk.settled(), -30);
        // The debit is not known any more: it is not repeated, but new.
        due("the debit again", bench, Message.debit(5, 30, 1), 0);
        due("the first settlement again", bench, Message.settlement(2), 0);
        CHECKS.due("settled", bench.desk.settled(), -60);
        CHECKS.due("balance", bench.desk.balance(5), 40);
        CHECKS.due("traces", bench.column(1), "2");
    }
}
