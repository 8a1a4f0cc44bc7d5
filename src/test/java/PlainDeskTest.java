import java.util.Random;
import java.util.TreeMap;

/** All promises: the program and PlainDesk give the same answers in long runs of drawn calls. */
final class PlainDeskTest {
    private static final int RUNS = 1500;
    private static final int CALLS = 512;
    private static final long[] CARDS = {5, 77, 1234, 9999999999999999L, 6, 42, 100001, 8};
    private static final String[] TERMINALS = {"TERM", "ELSE", " ~A0"};
    private static final String[] TYPES = {"0100", "0100", "0200", "0200", "0200", "0400", "0400",
        "0500", "0800", "0101"};
    private static final Checks CHECKS = new Checks();
    private static final TreeMap<Integer, Integer> ANSWERS = new TreeMap<>();

    private final Random random;
    private final String name;
    private final CardMessageDesk desk = new CardMessageDesk();
    private final PlainDesk plain = new PlainDesk();
    private final boolean manyTerminals;
    private final boolean seldomSettled;
    private int calls = 0;

    private PlainDeskTest(int run) {
        random = new Random(run);
        name = "run " + run;
        manyTerminals = run % 3 == 0;
        seldomSettled = run % 2 == 0;
    }

    public static void main(String[] args) {
        for (int run = 0; run < RUNS && CHECKS.wrong() < 20; run++) {
            new PlainDeskTest(run).run();
        }
        // Runs that never meet an answer would compare nothing there.
        System.out.println("how often each answer was met: " + ANSWERS);
        for (int answer : new int[] {0, 12, 14, 25, 30, 51, 96}) {
            CHECKS.due("answer " + answer + " is met", ANSWERS.getOrDefault(answer, 0) > 500, true);
        }
        CHECKS.end();
    }

    private void run() {
        for (int i = random.nextInt(6); i > 0; i--) {
            open();
        }
        while (calls < CALLS - 60 && CHECKS.wrong() < 20) {
            int kind = random.nextInt(20);
            if (kind < 12) {
                send(drawnMessage());
            } else if (kind < 14) {
                open();
            } else if (kind == 14) {
                tick();
            } else if (kind == 15) {
                feed(random.nextLong(), random.nextInt(12) - 1);
            } else {
                look();
            }
        }
        lookAtAll();
    }

    private void due(String call, long got, long want) {
        calls++;
        CHECKS.due(name + " call " + calls + ": " + call, got, want);
    }

    private long drawnCard() {
        return CARDS[random.nextInt(random.nextInt(4) == 0 ? CARDS.length : 3)];
    }

    private String drawnTerminal() {
        return manyTerminals && random.nextInt(3) == 0 ? "ST" + (10 + random.nextInt(20))
            : TERMINALS[random.nextInt(TERMINALS.length)];
    }

    private long drawnAmount() {
        switch (random.nextInt(8)) {
            case 0:
                return 0;
            case 1:
                return 999999999999L;
            case 2:
                return random.nextLong() >>> 25;
            default:
                return random.nextInt(300);
        }
    }

    private Message drawnMessage() {
        String type = TYPES[random.nextInt(TYPES.length)];
        if (type.equals("0500") && seldomSettled && random.nextInt(4) != 0) {
            type = "0200";
        }
        if (manyTerminals && seldomSettled && random.nextInt(4) == 0) {
            type = "0500";
        }
        Message message = new Message(type).trace(random.nextInt(12)).terminal(drawnTerminal());
        boolean money = type.equals("0100") || type.equals("0200");
        boolean other = type.equals("0800") || type.equals("0101");
        if (money || type.equals("0400") || other && random.nextBoolean()) {
            String digits = Long.toString(drawnCard());
            int zeros = random.nextInt(4) == 0 ? random.nextInt(17 - digits.length()) : 0;
            message.cardDigits("0".repeat(zeros) + digits);
        }
        if (money || other && random.nextBoolean()) {
            String[] kinds = {"000000", "000000", "200000", "010000", "001234", "209999"};
            message.sort(kinds[random.nextInt(kinds.length)]);
        }
        if (money || other && random.nextBoolean()) {
            message.amount(drawnAmount() % 1000000000000L);
        }
        if (random.nextInt(6) == 0) {
            message.note("~ ".repeat(random.nextInt(23)));
        }
        boolean named = type.equals("0400") || type.equals("0200") && random.nextInt(3) == 0;
        if (named || random.nextInt(40) == 0) {
            message.original(random.nextInt(12));
        }
        return message;
    }

    /** Sends a message, now and then with a byte changed, left out or added. */
    private void send(Message message) {
        StringBuilder hex = new StringBuilder(message.hex());
        int place = random.nextInt(hex.length());
        switch (random.nextInt(25)) {
            case 0:
                hex.setCharAt(place, Character.forDigit(random.nextInt(16), 16));
                break;
            case 1:
                hex.delete(place / 2 * 2, place / 2 * 2 + 2);
                break;
            case 2:
                hex.insert(place / 2 * 2, String.format("%02x", random.nextInt(256)));
                break;
            default:
                break;
        }
        for (int i = 0; i < hex.length(); i += 16) {
            String part = hex.substring(i, Math.min(hex.length(), i + 16));
            feed(Long.parseUnsignedLong(part, 16), part.length() / 2);
        }
        int want = plain.handle();
        ANSWERS.merge(want, 1, Integer::sum);
        due("handle() of " + hex, desk.handle(), want);
        for (int i = -1; i < 39; i++) {
            CHECKS.due(name + " reply(" + i + ") to " + hex, desk.reply(i), plain.reply(i));
        }
        lookAtAll();
    }

    private void feed(long bytes, int n) {
        due("feed(" + bytes + ", " + n + ")", desk.feed(bytes, n), plain.feed(bytes, n));
    }

    private void open() {
        long card = random.nextInt(10) == 0 ? random.nextLong() : drawnCard();
        long balance = random.nextInt(10) == 0 ? random.nextLong() : random.nextInt(1000);
        due("open(" + card + ", " + balance + ")", desk.open(card, balance) ? 1 : 0,
            plain.open(card, balance) ? 1 : 0);
    }

    private void tick() {
        int n = random.nextInt(10) == 0 ? random.nextInt(1100) - 50 : random.nextInt(30);
        due("tick(" + n + ")", desk.tick(n) ? 1 : 0, plain.tick(n) ? 1 : 0);
    }

    private void look() {
        int k = random.nextInt(40) - 3;
        int what = random.nextInt(7) - 1;
        due("entry(" + k + ", " + what + ")", desk.entry(k, what), plain.entry(k, what));
        due("amount(" + k + ")", desk.amount(k), plain.amount(k));
    }

    /**
     * Looking changes nothing, so these calls are not counted: the document promises nothing after
     * 512 calls, but this program does not count them either.
     */
    private void lookAtAll() {
        for (long card : CARDS) {
            if (plain.balance(card) != -(1L << 40)) {
                CHECKS.due(name + " available(" + card + ")", desk.available(card),
                    plain.available(card));
            }
            CHECKS.due(name + " balance(" + card + ")", desk.balance(card), plain.balance(card));
        }
        CHECKS.due(name + " entries()", desk.entries(), plain.entries());
        for (int k = 0; k < plain.entries(); k++) {
            for (int what = 0; what < 4; what++) {
                CHECKS.due(name + " entry(" + k + ", " + what + ")", desk.entry(k, what),
                    plain.entry(k, what));
            }
            CHECKS.due(name + " amount(" + k + ")", desk.amount(k), plain.amount(k));
        }
        for (String terminal : TERMINALS) {
            int number = Message.terminalNumber(terminal);
            CHECKS.due(name + " net(" + number + ")", desk.net(number), plain.net(number));
        }
        CHECKS.due(name + " settled()", desk.settled(), plain.settled());
    }
}
