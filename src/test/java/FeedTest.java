/** Promise 3: feed. */
final class FeedTest {
    private static final Checks CHECKS = new Checks();

    public static void main(String[] args) {
        counts();
        limit();
        orderOfBytes();
        refusedFeedsLeaveNothing();
        CHECKS.end();
    }

    private static void counts() {
        CardMessageDesk desk = new CardMessageDesk();
        int sum = 0;
        for (int n = 1; n <= 8; n++) {
            sum += n;
            CHECKS.due("feed(0, " + n + ")", desk.feed(0, n), sum);
        }
        int[] refused = {0, -1, 9, 16, 256 + 1, Integer.MIN_VALUE, Integer.MAX_VALUE};
        for (int n : refused) {
            CHECKS.due("feed(0, " + n + ")", desk.feed(0, n), -1);
        }
        CHECKS.due("feed after refusals", desk.feed(0, 1), sum + 1);
    }

    private static void limit() {
        CardMessageDesk desk = new CardMessageDesk();
        for (int k = 1; k <= 14; k++) {
            CHECKS.due("feed " + k, desk.feed(0, 8), 8 * k);
        }
        CHECKS.due("feed to 117", desk.feed(0, 5), 117);
        CHECKS.due("feed to 121", desk.feed(0, 4), -1);
        CHECKS.due("feed to 125", desk.feed(0, 8), -1);
        CHECKS.due("feed to 120", desk.feed(0, 3), 120);
        CHECKS.due("feed to 121", desk.feed(0, 1), -1);
        CHECKS.due("handle of 120 bytes", desk.handle(), 30);
        CHECKS.due("feed after handle", desk.feed(0, 8), 8);
    }

    /** The bytes of one request, cut in every way, always make the same request. */
    private static void orderOfBytes() {
        String hex = Message.hold(1234, 5000, 17).note("a note").hex();
        for (int size = 1; size <= 8; size++) {
            Bench bench = new Bench();
            bench.desk.open(1234, 5000);
            int fed = 0;
            for (int i = 0; i < hex.length(); i += 2 * size) {
                String part = hex.substring(i, Math.min(hex.length(), i + 2 * size));
                // The bits above the n lowest bytes say nothing.
                String wide = "a5a5a5a5a5a5a5a5".substring(part.length()) + part;
                fed += part.length() / 2;
                CHECKS.due("feed of " + part,
                    bench.desk.feed(Long.parseUnsignedLong(wide, 16), part.length() / 2), fed);
            }
            CHECKS.due("handle", bench.desk.handle(), 0);
            CHECKS.due("trace", bench.desk.entry(0, 1), 17);
            CHECKS.due("amount", bench.desk.amount(0), 5000);
        }
    }

    private static void refusedFeedsLeaveNothing() {
        Bench bench = new Bench();
        String hex = Message.settlement(3).hex();
        bench.feed(hex.substring(0, 16));
        bench.desk.feed(-1, 0);
        bench.desk.feed(-1, 9);
        bench.desk.feed(-1, -8);
        bench.feed(hex.substring(16));
        CHECKS.due("handle", bench.desk.handle(), 0);
    }
}
