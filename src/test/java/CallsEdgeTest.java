/** The first and the last calls of an object. */
final class CallsEdgeTest {
    private static final Checks CHECKS = new Checks();
    private static final int CALLS = 512;

    public static void main(String[] args) {
        newObject();
        looksChangeNothing();
        lastCallAfterTicks();
        lastCallAfterFeeds();
        lastCallAfterRequests();
        CHECKS.end();
    }

    private static void newObject() {
        CHECKS.about("No card, no entry, IN and the reply have no bytes, nothing is settled");
        CHECKS.due("handle() at first", new CardMessageDesk().handle(), 30);
        CHECKS.due("feed(0, 8) at first", new CardMessageDesk().feed(0, 8), 8);
        CHECKS.due("reply(0) at first", new CardMessageDesk().reply(0), -1);
        CHECKS.due("entries() at first", new CardMessageDesk().entries(), 0);
        CHECKS.due("entry(0, 0) at first", new CardMessageDesk().entry(0, 0), -1);
        CHECKS.due("amount(0) at first", new CardMessageDesk().amount(0), -1);
        CHECKS.due("net(0) at first", new CardMessageDesk().net(0), 0);
        CHECKS.due("settled() at first", new CardMessageDesk().settled(), 0);
        CHECKS.due("balance(0) at first", new CardMessageDesk().balance(0), Bench.MISSING);
        CHECKS.due("available(0) at first", new CardMessageDesk().available(0), Bench.MISSING);
        CHECKS.due("tick(0) at first", new CardMessageDesk().tick(0), true);
        CHECKS.due("the first card", new CardMessageDesk().open(1, 0), true);
        CHECKS.due("a settlement at first", new Bench().send(Message.settlement(0)), 0);
        CHECKS.due("a hold at first", new Bench().send(Message.hold(1, 0, 0)), 14);
    }

    private static void looksChangeNothing() {
        CHECKS.about("Nothing is promised beyond the answers and state changes described above");
        Bench bench = Bench.withTwoCards();
        bench.send(Message.hold(5, 10, 1));
        bench.send(Message.debit(77, 20, 2));
        bench.feed("0500");
        String reply = bench.reply();
        String before = bench.whole();
        CHECKS.due("all that can be seen", bench.whole(), before);
        CHECKS.due("the reply", bench.reply(), reply);
        CHECKS.due("IN", bench.desk.feed(0, 1), 3);
    }

    private static void lastCallAfterTicks() {
        CHECKS.about("An object is used for at most 512 calls after it has been made");
        CardMessageDesk desk = new CardMessageDesk();
        String hex = Message.hold(5, 10, 1).hex();
        for (int call = 0; call < CALLS - 10; call++) {
            CHECKS.due("tick(1000)", desk.tick(1000), true);
        }
        CHECKS.due("open", desk.open(5, 100), true);
        for (int i = 0; i < hex.length(); i += 16) {
            String part = hex.substring(i, Math.min(hex.length(), i + 16));
            CHECKS.due("feed", desk.feed(Long.parseLong(part, 16), part.length() / 2),
                (i + part.length()) / 2);
        }
        CHECKS.due("handle", desk.handle(), 0);
        CHECKS.due("tick(49)", desk.tick(49), true);
        CHECKS.due("available", desk.available(5), 90);
        CHECKS.due("the last call", desk.entry(0, 3), 1);
    }

    private static void lastCallAfterFeeds() {
        CHECKS.about("An object is used for at most 512 calls after it has been made");
        CardMessageDesk desk = new CardMessageDesk();
        for (int call = 1; call < CALLS; call++) {
            CHECKS.due("feed " + call, desk.feed(-1, 1), call <= 120 ? call : -1);
        }
        CHECKS.due("the last call", desk.handle(), 30);
    }

    /** As many entries as can be made: a settlement is fed by three calls. */
    private static void lastCallAfterRequests() {
        CHECKS.about("An object is used for at most 512 calls after it has been made");
        Bench bench = new Bench();
        int requests = (CALLS - 1) / 4;
        for (int trace = 1; trace <= requests; trace++) {
            CHECKS.due("settlement", bench.send(Message.settlement(trace)), 0);
        }
        CHECKS.due("the last call", bench.desk.entry(0, 1), requests);
    }
}
