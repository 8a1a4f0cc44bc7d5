/** Promises 12 and 13 at their edges. */
final class NetEdgeTest {
    private static final Checks CHECKS = new Checks();
    private static final long MOST = 999999999999L;

    public static void main(String[] args) {
        terminalWithoutEntries();
        noTerminalAtAll();
        entriesThatDoNotCount();
        belowZero();
        largest();
        firstCharacterHighest();
        anyCard();
        severalBatches();
        batchesThatCancel();
        largeBatches();
        notSettled();
        CHECKS.end();
    }

    private static void net(Bench bench, String terminal, long want) {
        CHECKS.due("net(" + terminal + ")", bench.net(terminal), want);
    }

    private static void settled(Bench bench, long want) {
        CHECKS.due("settled()", bench.desk.settled(), want);
    }

    private static void terminalWithoutEntries() {
        CHECKS.about("The net of the terminal whose four characters the int has");
        net(new Bench(), "TERM", 0);
        Bench bench = Bench.withEntries(24);
        net(bench, "TERM", -24);
        net(bench, "ELSE", 0);
        net(bench, "    ", 0);
        net(bench, "~~~~", 0);
        bench.send(Message.settlement(99));
        net(bench, "TERM", 0);
    }

    private static void noTerminalAtAll() {
        CHECKS.about("The net of the terminal whose four characters the int has");
        int[] strange = {0, 1, -1, 0x5445524d >>> 8, 0x5445524d << 8, 0x5445524d | 1 << 31,
            0x4d524554, 0x5445524c, 0x5445524e, Integer.MIN_VALUE, Integer.MAX_VALUE};
        Bench bench = Bench.withEntries(3);
        for (int terminal : strange) {
            CHECKS.due("net(" + terminal + ")", bench.desk.net(terminal), 0);
        }
        CHECKS.due("net(TERM)", bench.desk.net(0x5445524d), -3);
    }

    private static void entriesThatDoNotCount() {
        CHECKS.about("of the entries with the answer 0 that are not reversed");
        Bench bench = Bench.withOneCard();
        bench.send(Message.hold(5, 10, 1));
        bench.send(Message.debit(5, 101, 2));
        bench.send(Message.debit(6, 1, 3));
        bench.send(Message.money("0200", "10", 5, 1, 4));
        bench.send(Message.credit(5, 1, 5).original(1));
        bench.send(Message.reversal(5, 6, 99));
        net(bench, "TERM", 0);
        bench.send(Message.credit(5, 7, 7));
        net(bench, "TERM", 7);
        bench.send(Message.reversal(5, 8, 7));
        net(bench, "TERM", 0);
        bench.send(Message.debit(5, 0, 9));
        bench.send(Message.credit(5, 0, 10));
        net(bench, "TERM", 0);
        // A hold counts when it is completed, by what is taken, and a reversal takes that back.
        bench.send(Message.debit(5, 4, 11).original(1));
        net(bench, "TERM", -4);
        bench.send(Message.reversal(5, 12, 11));
        net(bench, "TERM", 0);
    }

    private static void belowZero() {
        CHECKS.about("the sum of the amounts of its credits less those of its debits");
        Bench bench = Bench.withOneCard();
        bench.send(Message.debit(5, 1, 1));
        net(bench, "TERM", -1);
        bench.send(Message.credit(5, 1, 2));
        net(bench, "TERM", 0);
        bench.send(Message.credit(5, 1, 3));
        net(bench, "TERM", 1);
        bench.send(Message.debit(5, 101, 4));
        net(bench, "TERM", -100);
        bench.send(Message.reversal(5, 5, 4));
        net(bench, "TERM", 1);
        bench.send(Message.settlement(6));
        settled(bench, 1);
        bench.send(Message.debit(5, 101, 7));
        bench.send(Message.settlement(8));
        settled(bench, -100);
    }

    private static void largest() {
        CHECKS.about("the sum of the amounts of its credits less those of its debits");
        Bench bench = Bench.withCard(0);
        for (int trace = 1; trace <= 24; trace++) {
            bench.send(Message.credit(5, MOST, trace));
        }
        net(bench, "TERM", 24 * MOST);
        bench.send(Message.settlement(99).terminal("ELSE"));
        bench.send(Message.settlement(98));
        for (int trace = 1; trace <= 22; trace++) {
            bench.send(Message.debit(5, MOST, trace));
        }
        net(bench, "TERM", -22 * MOST);
        CHECKS.due("balance", bench.desk.balance(5), 2 * MOST);
    }

    private static void firstCharacterHighest() {
        CHECKS.about("whose four characters the int has, the first one highest");
        String[] terminals = {"ABCD", "DCBA", "BACD", "ABDC", "    ", "~~~~", " ~ ~", "~ ~ ",
            "0000", "9999", "AAAA", "AAAB", "BAAA"};
        Bench bench = Bench.withCard(1000000);
        for (int k = 0; k < terminals.length; k++) {
            bench.send(Message.debit(5, 1 << k, 1).terminal(terminals[k]));
        }
        for (int k = 0; k < terminals.length; k++) {
            net(bench, terminals[k], -(1 << k));
        }
        CHECKS.due("net(ABCD)", bench.desk.net(0x41424344), -1);
        CHECKS.due("net(spaces)", bench.desk.net(0x20202020), -16);
        CHECKS.due("net(~~~~)", bench.desk.net(0x7e7e7e7e), -32);
        CHECKS.due("net(~ ~ )", bench.desk.net(0x7e207e20), -128);
    }

    private static void anyCard() {
        CHECKS.about("The NET of a terminal");
        Bench bench = Bench.withTwoCards();
        bench.send(Message.debit(5, 10, 1));
        bench.send(Message.debit(77, 200, 2));
        bench.send(Message.credit(77, 3, 3));
        bench.send(Message.debit(77, 5, 4).terminal("ELSE"));
        net(bench, "TERM", -207);
        net(bench, "ELSE", -5);
    }

    private static void severalBatches() {
        CHECKS.about("What is settled: the sum of all nets that were settled");
        Bench bench = Bench.withTwoCards();
        settled(bench, 0);
        long sum = 0;
        for (int batch = 1; batch <= 8; batch++) {
            String terminal = batch % 2 == 0 ? "TERM" : "ELSE";
            bench.send(Message.credit(5, 10 * batch, 1).terminal(terminal));
            bench.send(Message.debit(77, 11 + batch, 2).terminal(terminal));
            settled(bench, sum);
            net(bench, terminal, 9 * batch - 11);
            bench.send(Message.settlement(batch).terminal(terminal));
            sum += 9 * batch - 11;
            settled(bench, sum);
            net(bench, terminal, 0);
        }
    }

    private static void batchesThatCancel() {
        CHECKS.about("What is settled: the sum of all nets that were settled");
        Bench bench = Bench.withOneCard();
        bench.send(Message.debit(5, 60, 1));
        bench.send(Message.settlement(2));
        settled(bench, -60);
        bench.send(Message.credit(5, 60, 3));
        bench.send(Message.settlement(4));
        settled(bench, 0);
        bench.send(Message.credit(5, 1, 5));
        bench.send(Message.settlement(6));
        settled(bench, 1);
        bench.send(Message.debit(5, 2, 7));
        bench.send(Message.reversal(5, 8, 7));
        bench.send(Message.settlement(9));
        settled(bench, 1);
        CHECKS.due("a reversal after the batch", bench.send(Message.reversal(5, 10, 5)), 25);
        settled(bench, 1);
    }

    /** Sums far above 12 digits and above 32 bits, over as many batches as 512 calls allow. */
    private static void largeBatches() {
        CHECKS.about("What is settled: the sum of all nets that were settled");
        Bench bench = Bench.withOneCard();
        int credits = 0;
        for (int batch = 1; batch <= 4; batch++) {
            for (int trace = 1; trace <= 20; trace++) {
                bench.send(Message.credit(5, MOST, trace));
                credits++;
            }
            bench.send(Message.settlement(batch));
            settled(bench, credits * MOST);
        }
        CHECKS.due("balance", bench.desk.balance(5), 100 + 80 * MOST);
    }

    private static void notSettled() {
        CHECKS.about("and nothing else happens");
        Bench bench = Bench.withOneCard();
        bench.send(Message.debit(5, 10, 1));
        bench.send(Message.settlement(2));
        bench.send(Message.debit(5, 10, 3));
        bench.send(Message.settlement(2));
        settled(bench, -10);
        net(bench, "TERM", -10);
        CHECKS.about("FORMAT, and the reply has no bytes, when it is no request");
        bench.send(Message.settlement(4).hex() + "20");
        settled(bench, -10);
        net(bench, "TERM", -10);
        CHECKS.about("(for the type 0500: 32)");
        bench = Bench.withEntries(32);
        bench.send(Message.settlement(99));
        settled(bench, 0);
        net(bench, "TERM", -24);
    }
}
