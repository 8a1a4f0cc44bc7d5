/** Promise 3: feed. */
final class FeedTest {
    private static final Checks CHECKS = new Checks();

    public static void main(String[] args) {
        orderOfBytes();
        counts();
        countOutOfBounds();
        refusedWithinARequest();
        moreThan120();
        bothReasons();
        fullAndHandled();
        CHECKS.end();
    }

    private static void feed(CardMessageDesk desk, long bytes, int n, int want) {
        CHECKS.due("feed(" + bytes + ", " + n + ")", desk.feed(bytes, n), want);
    }

    /** A new desk with so many bytes in IN. */
    private static CardMessageDesk deskWith(int size) {
        CardMessageDesk desk = new CardMessageDesk();
        for (int fed = 0; fed < size; fed += 8) {
            desk.feed(0, Math.min(8, size - fed));
        }
        return desk;
    }

    /** The bytes of one request, cut in every way, always make the same request. */
    private static void orderOfBytes() {
        CHECKS.about("Appends the n lowest bytes of a long, the highest of them first, to IN");
        String hex = Message.hold(1234, 5000, 17).note("a note").hex();
        for (int size = 1; size <= 8; size++) {
            Bench bench = new Bench();
            bench.desk.open(1234, 5000);
            int fed = 0;
            for (int i = 0; i < hex.length(); i += 2 * size) {
                String part = hex.substring(i, Math.min(hex.length(), i + 2 * size));
                // The bits above the n lowest bytes say nothing.
                String wide = "a5a5a5a5a5a5a5a5".substring(part.length()) + part;
                fed += part.length() / 2;
                feed(bench.desk, Long.parseUnsignedLong(wide, 16), part.length() / 2, fed);
            }
            CHECKS.due("handle", bench.desk.handle(), 0);
            CHECKS.due("trace", bench.desk.entry(0, 1), 17);
            CHECKS.due("amount", bench.desk.amount(0), 5000);
        }
    }

    private static void counts() {
        CHECKS.about("Answers how many bytes it has");
        CardMessageDesk desk = new CardMessageDesk();
        int sum = 0;
        for (int n = 1; n <= 8; n++) {
            sum += n;
            feed(desk, 0, n, sum);
        }
        for (int k = 0; k < 84; k++) {
            sum++;
            feed(desk, -1, 1, sum);
        }
        feed(desk, 0, 1, -1);
    }

    private static void countOutOfBounds() {
        CHECKS.about("NONE, changing nothing, when n is not 1 .. 8");
        int[] refused = {0, -1, 9, 10, 16, -8, 256 + 1, Integer.MIN_VALUE, Integer.MAX_VALUE};
        for (int size = 0; size <= 112; size += 16) {
            CardMessageDesk desk = deskWith(size);
            for (int n : refused) {
                feed(desk, 0, n, -1);
            }
            feed(desk, 0, 1, size + 1);
        }
    }

    private static void refusedWithinARequest() {
        CHECKS.about("NONE, changing nothing, when n is not 1 .. 8");
        String hex = Message.hold(5, 30, 3).hex();
        for (int cut = 0; cut <= hex.length(); cut += 2) {
            Bench bench = Bench.withOneCard();
            bench.feed(hex.substring(0, cut));
            feed(bench.desk, -1, 0, -1);
            feed(bench.desk, -1, 9, -1);
            feed(bench.desk, -1, -8, -1);
            bench.feed(hex.substring(cut));
            CHECKS.due("handle", bench.desk.handle(), 0);
            CHECKS.due("available", bench.desk.available(5), 70);
        }
    }

    private static void moreThan120() {
        CHECKS.about("or there would be more than 120");
        for (int size = 110; size <= 120; size++) {
            for (int n = 1; n <= 8; n++) {
                CardMessageDesk desk = deskWith(size);
                boolean fits = size + n <= 120;
                feed(desk, 0, n, fits ? size + n : -1);
                // What was refused has left all the room that there was.
                int used = fits ? size + n : size;
                for (int next = used + 1; next <= 120; next++) {
                    feed(desk, 0, 1, next);
                }
                feed(desk, 0, 1, -1);
            }
        }
    }

    private static void bothReasons() {
        CHECKS.about("NONE, changing nothing, when n is not 1 .. 8 or there would be more than "
            + "120");
        CardMessageDesk desk = deskWith(120);
        feed(desk, 0, 0, -1);
        feed(desk, 0, -1, -1);
        feed(desk, 0, 9, -1);
        feed(desk, 0, Integer.MAX_VALUE, -1);
        feed(desk, 0, Integer.MIN_VALUE, -1);
        feed(desk, 0, 8, -1);
    }

    private static void fullAndHandled() {
        CHECKS.about("Handles the bytes of IN, and IN has none then");
        CardMessageDesk desk = deskWith(120);
        CHECKS.due("handle of 120 bytes", desk.handle(), 30);
        for (int k = 1; k <= 15; k++) {
            feed(desk, 0, 8, 8 * k);
        }
        feed(desk, 0, 1, -1);
        CHECKS.due("handle of 120 bytes", desk.handle(), 30);
        Bench bench = new Bench();
        CHECKS.due("handle of a request", bench.send(Message.settlement(1)), 0);
        feed(bench.desk, 0, 3, 3);
    }
}
