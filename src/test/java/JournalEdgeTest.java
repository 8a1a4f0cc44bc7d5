/** Promises 9, 10 and 11 at their edges. */
final class JournalEdgeTest {
    private static final Checks CHECKS = new Checks();

    public static void main(String[] args) {
        emptyJournal();
        noSuchEntry();
        fullJournal();
        whatOutOfBounds();
        leastAndMost();
        fieldsThatAreNotThere();
        statesOfAHold();
        statesOfOthers();
        takenOutIsNone();
        oldestFirst();
        CHECKS.end();
    }

    private static void none(Bench bench, int k) {
        CHECKS.due("amount(" + k + ")", bench.desk.amount(k), -1);
        for (int what = 0; what <= 3; what++) {
            CHECKS.due("entry(" + k + ", " + what + ")", bench.desk.entry(k, what), -1);
        }
    }

    private static void noneOutside(Bench bench, int entries) {
        int[] outside = {-1, -2, entries, entries + 1, 32, 33, 512, Integer.MIN_VALUE,
            Integer.MAX_VALUE};
        for (int k : outside) {
            none(bench, k);
        }
    }

    private static void emptyJournal() {
        CHECKS.about("How many entries the journal has");
        Bench bench = Bench.withOneCard();
        CHECKS.due("entries()", bench.desk.entries(), 0);
        none(bench, 0);
        noneOutside(bench, 0);
        bench.send(new Message("0800").trace(1).terminal("TERM"));
        bench.send("00");
        CHECKS.due("entries()", bench.desk.entries(), 0);
        none(bench, 0);
    }

    private static void noSuchEntry() {
        CHECKS.about("NONE when there is no such entry");
        for (int entries : new int[] {1, 2, 3, 23, 24, 25, 31}) {
            Bench bench = Bench.withEntries(entries);
            CHECKS.due("entries()", bench.desk.entries(), entries);
            CHECKS.due("the oldest", bench.desk.entry(0, 1), 0);
            CHECKS.due("the latest", bench.desk.entry(entries - 1, 1), entries - 1);
            noneOutside(bench, entries);
        }
    }

    private static void fullJournal() {
        CHECKS.about("How many entries the journal has");
        Bench bench = Bench.withEntries(32);
        bench.send(Message.debit(5, 1, 99));
        bench.send(Message.settlement(99).terminal("ELSE"));
        CHECKS.due("entries()", bench.desk.entries(), 32);
        CHECKS.due("entry(31, 0)", bench.desk.entry(31, 0), 500);
        CHECKS.due("entry(31, 1)", bench.desk.entry(31, 1), 31);
        CHECKS.due("entry(23, 0)", bench.desk.entry(23, 0), 200);
        CHECKS.due("amount(23)", bench.desk.amount(23), 1);
        CHECKS.due("amount(31)", bench.desk.amount(31), 0);
        noneOutside(bench, 32);
    }

    private static void whatOutOfBounds() {
        CHECKS.about("or what is not 0 .. 3");
        Bench bench = Bench.withOneCard();
        bench.send(Message.hold(5, 10, 1));
        bench.send(Message.debit(5, 20, 2));
        int[] outside = {-1, -2, 4, 5, 256, Integer.MIN_VALUE, Integer.MAX_VALUE};
        for (int what : outside) {
            for (int k : new int[] {0, 1, -1, 2, Integer.MAX_VALUE}) {
                CHECKS.due("entry(" + k + ", " + what + ")", bench.desk.entry(k, what), -1);
            }
        }
    }

    private static void row(Bench bench, int k, String want, long amount) {
        StringBuilder row = new StringBuilder();
        for (int what = 0; what <= 3; what++) {
            row.append(what == 0 ? "" : " ").append(bench.desk.entry(k, what));
        }
        CHECKS.due("entry " + k, row.toString(), want);
        CHECKS.due("amount(" + k + ")", bench.desk.amount(k), amount);
    }

    private static void leastAndMost() {
        CHECKS.about("what = 0 its type as a number, 1 its trace, 2 its answer");
        Bench bench = Bench.withCard(1000000000000L);
        bench.send(Message.hold(5, 0, 0));
        bench.send(Message.hold(5, 999999999999L, 999999));
        bench.send(Message.debit(5, 999999999999L, 0));
        bench.send(Message.credit(5, 999999999999L, 999999));
        bench.send(Message.reversal(5, 0, 12));
        bench.send(Message.settlement(999999).terminal("ELSE"));
        row(bench, 0, "100 0 0 1", 0);
        row(bench, 1, "100 999999 0 1", 999999999999L);
        row(bench, 2, "200 0 51 0", 999999999999L);
        row(bench, 3, "200 999999 0 0", 999999999999L);
        row(bench, 4, "400 0 25 0", 0);
        row(bench, 5, "500 999999 0 0", 0);
    }

    private static void fieldsThatAreNotThere() {
        CHECKS.about("(a field that is not there counts as 0)");
        Bench bench = Bench.withOneCard();
        bench.send(Message.debit(5, 30, 1));
        bench.send(Message.reversal(5, 2, 1));
        CHECKS.due("a reversal's amount", bench.desk.amount(1), 0);
        bench.send(Message.debit(5, 40, 3));
        bench.send(Message.settlement(4));
        CHECKS.due("a settlement's amount", bench.desk.amount(0), 0);
        // The request before it had these fields, which are not the settlement's.
        bench.send(Message.debit(6, 50, 5));
        bench.send(Message.settlement(6).terminal("ELSE"));
        CHECKS.due("a settlement's amount", bench.desk.amount(2), 0);
        bench.send(Message.debit(5, 7, 8));
        bench.send(Message.reversal(5, 9, 99));
        CHECKS.due("a refused reversal's amount", bench.desk.amount(4), 0);
    }

    private static void statesOfAHold() {
        CHECKS.about("3 1 when it is a hold, 2 when it is completed, 3 when it is reversed, "
            + "0 otherwise (also when a hold's 50 ticks have gone by)");
        Bench bench = Bench.withOneCard();
        for (int trace = 1; trace <= 4; trace++) {
            bench.send(Message.hold(5, 10, trace));
        }
        bench.send(Message.hold(5, 101, 5));
        CHECKS.due("states", bench.states(), "1 1 1 1 0");
        bench.send(Message.debit(5, 0, 6).original(2));
        bench.send(Message.reversal(5, 7, 3));
        CHECKS.due("states", bench.states(), "1 2 3 1 0 0 0");
        bench.desk.tick(49);
        CHECKS.due("states at 49", bench.states(), "1 2 3 1 0 0 0");
        bench.send(Message.debit(5, 10, 8).original(4));
        bench.desk.tick(1);
        CHECKS.due("states at 50", bench.states(), "0 2 3 2 0 0 0 0");
    }

    private static void statesOfOthers() {
        CHECKS.about("3 when it is reversed, 0 otherwise");
        Bench bench = Bench.withOneCard();
        bench.send(Message.debit(5, 0, 1));
        bench.send(Message.credit(5, 0, 2));
        bench.send(Message.reversal(5, 3, 1));
        bench.send(Message.reversal(5, 4, 2));
        bench.send(Message.settlement(5).terminal("ELSE"));
        bench.send(Message.debit(5, 101, 6));
        CHECKS.due("states", bench.states(), "3 3 0 0 0 0");
        bench.desk.tick(1000);
        CHECKS.due("states later", bench.states(), "3 3 0 0 0 0");
    }

    private static void takenOutIsNone() {
        CHECKS.about("NONE when there is no such entry");
        for (int entries : new int[] {1, 2, 23, 24}) {
            Bench bench = Bench.withEntries(entries);
            bench.send(Message.settlement(99));
            CHECKS.due("entries()", bench.desk.entries(), 1);
            row(bench, 0, "500 99 0 0", 0);
            noneOutside(bench, 1);
            none(bench, entries);
        }
    }

    private static void oldestFirst() {
        CHECKS.about("Of entry k (0 is the oldest)");
        Bench bench = Bench.withOneCard();
        for (int trace = 9; trace >= 1; trace--) {
            bench.send(trace % 3 == 0 ? Message.hold(5, trace, trace)
                : Message.debit(5, trace, trace).terminal(trace % 3 == 1 ? "TERM" : "ELSE"));
        }
        CHECKS.due("traces", bench.column(1), "9 8 7 6 5 4 3 2 1");
        bench.send(Message.settlement(50));
        CHECKS.due("traces", bench.column(1), "9 8 6 5 3 2 50");
        bench.send(Message.debit(5, 1, 40));
        bench.send(Message.settlement(51).terminal("ELSE"));
        CHECKS.due("traces", bench.column(1), "9 6 3 50 40 51");
        CHECKS.due("states", bench.states(), "1 1 1 0 0 0");
        bench.desk.tick(50);
        bench.send(Message.settlement(52));
        CHECKS.due("traces", bench.column(1), "51 52");
    }
}
