import java.util.Random;
import java.util.TreeMap;

/** All promises: the program and PlainDesk give the same answers in long runs of drawn calls. */
final class PlainDeskTest {
    private static final int RUNS = 4000;
    /** The document promises nothing after so many calls of one object. */
    private static final int CALLS = 512;
    private static final int CALLS_OF_A_MESSAGE = 15;
    private static final int CALLS_OF_THE_LAST_LOOK = 160;
    private static final long[] CARDS = {5, 77, 1234, 9999999999999999L, 6, 42, 100001, 8};
    private static final String[] TERMINALS = {"TERM", "ELSE", " ~A0"};
    private static final String[] TYPES = {"0100", "0100", "0200", "0200", "0200", "0400", "0400",
        "0500", "0800", "0101"};
    private static final Checks CHECKS = new Checks();
    private static final TreeMap<Integer, Integer> ANSWERS = new TreeMap<>();
    private static int fullJournals = 0;

    private final Random random;
    private final String name;
    private final CardMessageDesk desk = new CardMessageDesk();
    private final PlainDesk plain = new PlainDesk();
    private final boolean manyTerminals;
    private final boolean seldomSettled;
    private final boolean filled;
    private int calls = 0;

    private PlainDeskTest(int run) {
        random = new Random(run);
        name = "run " + run;
        manyTerminals = run % 3 == 0;
        seldomSettled = run % 2 == 0;
        filled = run % 5 == 0;
    }

    public static void main(String[] args) {
        for (int run = 0; run < RUNS && CHECKS.wrong() < 20; run++) {
            new PlainDeskTest(run).run();
        }
        // Runs that never meet an answer would compare nothing there.
        System.out.println("how often each answer was met: " + ANSWERS
            + ", and a journal of 32 at the end: " + fullJournals);
        CHECKS.due("a journal of 32 is met", fullJournals > 100, true);
        for (int answer : new int[] {0, 12, 14, 25, 30, 51, 96}) {
            CHECKS.due("answer " + answer + " is met", ANSWERS.getOrDefault(answer, 0) > 500, true);
        }
        CHECKS.end();
    }

    private void run() {
        int end = CALLS - CALLS_OF_THE_LAST_LOOK - CALLS_OF_A_MESSAGE;
        if (random.nextInt(4) == 0) {
            end = random.nextInt(end);
        }
        for (int i = random.nextInt(12); i > 0; i--) {
            open();
        }
        while (calls < end && CHECKS.wrong() < 20) {
            int kind = random.nextInt(24);
            if (kind < 20) {
                send(drawnMessage());
            } else if (kind == 20) {
                open();
            } else if (kind == 21) {
                tick();
            } else if (kind == 22) {
                feed(random.nextLong(), random.nextInt(12) - 1);
            } else {
                look();
            }
        }
        lookAtAll();
        CHECKS.due(name + " has at most 512 calls", calls <= CALLS, true);
    }

    private void due(String call, long got, long want) {
        calls++;
        CHECKS.due(name + " call " + calls + ": " + call, got, want);
    }

    private long drawnCard() {
        return CARDS[random.nextInt(random.nextInt(4) == 0 ? CARDS.length : 3)];
    }

    private String drawnTerminal() {
        boolean one = filled && plain.entries() >= 24 || manyTerminals && random.nextInt(3) == 0;
        return one && random.nextInt(20) != 0 ? "ST" + (10 + random.nextInt(20))
            : TERMINALS[random.nextInt(TERMINALS.length)];
    }

    private String drawnType() {
        String type = TYPES[random.nextInt(TYPES.length)];
        if (filled) {
            boolean full = plain.entries() >= 24 && random.nextInt(4) != 0;
            return full ? "0500" : type.equals("0500") ? "0200" : type;
        }
        return type.equals("0500") && seldomSettled && random.nextInt(4) != 0 ? "0200" : type;
    }

    private long drawnAmount() {
        switch (random.nextInt(8)) {
            case 0:
                return 0;
            case 1:
                return 999999999999L;
            case 2:
                return random.nextLong() >>> 25;
            default:
                return random.nextInt(300);
        }
    }

    private Message drawnMessage() {
        String type = drawnType();
        Message message = new Message(type).trace(random.nextInt(filled ? 40 : 12))
            .terminal(drawnTerminal());
        boolean money = type.equals("0100") || type.equals("0200");
        boolean other = type.equals("0800") || type.equals("0101");
        if (money || type.equals("0400") || other && random.nextBoolean()) {
            String digits = Long.toString(drawnCard());
            int zeros = random.nextInt(4) == 0 ? random.nextInt(17 - digits.length()) : 0;
            message.cardDigits("0".repeat(zeros) + digits);
        }
        if (money || other && random.nextBoolean()) {
            String[] kinds = {"000000", "000000", "200000", "010000", "001234", "209999"};
            message.sort(kinds[random.nextInt(kinds.length)]);
        }
        if (money || other && random.nextBoolean()) {
            message.amount(drawnAmount() % 1000000000000L);
        }
        if (random.nextInt(6) == 0) {
            message.note("~ ".repeat(random.nextInt(23)));
        }
        boolean named = type.equals("0400") || type.equals("0200") && random.nextInt(3) == 0;
        if (named || random.nextInt(40) == 0) {
            message.original(random.nextInt(12));
        }
        return message;
    }

    /** Sends a message, now and then with a byte changed, left out or added. */
    private void send(Message message) {
        StringBuilder hex = new StringBuilder(message.hex());
        int place = random.nextInt(hex.length());
        switch (random.nextInt(25)) {
            case 0:
                hex.setCharAt(place, Character.forDigit(random.nextInt(16), 16));
                break;
            case 1:
                hex.delete(place / 2 * 2, place / 2 * 2 + 2);
                break;
            case 2:
                hex.insert(place / 2 * 2, String.format("%02x", random.nextInt(256)));
                break;
            default:
                break;
        }
        for (int i = 0; i < hex.length(); i += 16) {
            String part = hex.substring(i, Math.min(hex.length(), i + 16));
            feed(Long.parseUnsignedLong(part, 16), part.length() / 2);
        }
        int want = plain.handle();
        ANSWERS.merge(want, 1, Integer::sum);
        due("handle() of " + hex, desk.handle(), want);
        look();
    }

    private void feed(long bytes, int n) {
        due("feed(" + bytes + ", " + n + ")", desk.feed(bytes, n), plain.feed(bytes, n));
    }

    private void open() {
        long card = random.nextInt(10) == 0 ? random.nextLong() : drawnCard();
        long balance = random.nextInt(10) == 0 ? random.nextLong() : random.nextInt(1000);
        due("open(" + card + ", " + balance + ")", desk.open(card, balance) ? 1 : 0,
            plain.open(card, balance) ? 1 : 0);
    }

    private void tick() {
        int n = random.nextInt(10) == 0 ? random.nextInt(1100) - 50 : random.nextInt(30);
        due("tick(" + n + ")", desk.tick(n) ? 1 : 0, plain.tick(n) ? 1 : 0);
    }

    /** Looks at one thing that is drawn. */
    private void look() {
        int k = random.nextInt(40) - 3;
        switch (random.nextInt(8)) {
            case 0:
                lookAtCard(drawnCard());
                break;
            case 1:
                due("amount(" + k + ")", desk.amount(k), plain.amount(k));
                break;
            case 2:
                lookAtNet(drawnTerminal());
                break;
            case 3:
                due("settled()", desk.settled(), plain.settled());
                break;
            case 4:
                due("entries()", desk.entries(), plain.entries());
                break;
            case 5:
                int what = random.nextInt(7) - 1;
                due("entry(" + k + ", " + what + ")", desk.entry(k, what), plain.entry(k, what));
                break;
            default:
                due("reply(" + k + ")", desk.reply(k), plain.reply(k));
                break;
        }
    }

    private void lookAtCard(long card) {
        long balance = plain.balance(card);
        due("balance(" + card + ")", desk.balance(card), balance);
        due("available(" + card + ")", desk.available(card), plain.available(card));
    }

    private void lookAtNet(String terminal) {
        int number = Message.terminalNumber(terminal);
        due("net(" + number + ")", desk.net(number), plain.net(number));
    }

    /** Looks at all cards and terminals, the whole reply, and two columns of the journal. */
    private void lookAtAll() {
        for (long card : CARDS) {
            lookAtCard(card);
        }
        for (String terminal : TERMINALS) {
            lookAtNet(terminal);
        }
        due("settled()", desk.settled(), plain.settled());
        for (int i = -1; i < 39; i++) {
            due("reply(" + i + ")", desk.reply(i), plain.reply(i));
        }
        due("entries()", desk.entries(), plain.entries());
        fullJournals += plain.entries() == 32 ? 1 : 0;
        int what = random.nextInt(4);
        for (int k = -1; k <= plain.entries(); k++) {
            due("entry(" + k + ", " + what + ")", desk.entry(k, what), plain.entry(k, what));
            if (what == 3) {
                due("amount(" + k + ")", desk.amount(k), plain.amount(k));
            } else {
                due("entry(" + k + ", 3)", desk.entry(k, 3), plain.entry(k, 3));
            }
        }
    }
}
