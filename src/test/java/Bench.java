/** A desk with the ways in which tests talk to it. */
final class Bench {
    static final long MISSING = -1099511627776L;
    private static final long[] CARDS = {5, 77, 6};
    private static final String[] TERMINALS = {"TERM", "ELSE"};

    final CardMessageDesk desk = new CardMessageDesk();

    /** A new desk that has card 5 with a balance of 100. */
    static Bench withOneCard() {
        return withCard(100);
    }

    /** A new desk that has card 5 with this balance. */
    static Bench withCard(long balance) {
        Bench bench = new Bench();
        bench.desk.open(5, balance);
        return bench;
    }

    /** A new desk that has card 77 with a balance of 1000, too. */
    static Bench withTwoCards() {
        Bench bench = withOneCard();
        bench.desk.open(77, 1000);
        return bench;
    }

    /** A new desk with one card and so many entries: 24 debits of 1, then settlements. */
    static Bench withEntries(int count) {
        Bench bench = withOneCard();
        for (int k = 0; k < count; k++) {
            bench.send(k < 24 ? Message.debit(5, 1, k) : Message.settlement(k).terminal("SE" + k));
        }
        return bench;
    }

    /** Feeds bytes that are written in hexadecimal; the answer of the last feed. */
    int feed(String hex) {
        int answer = 0;
        for (int i = 0; i < hex.length(); i += 16) {
            String part = hex.substring(i, Math.min(hex.length(), i + 16));
            answer = desk.feed(Long.parseUnsignedLong(part, 16), part.length() / 2);
        }
        return answer;
    }

    int send(String hex) {
        feed(hex);
        return desk.handle();
    }

    int send(Message message) {
        return send(message.hex());
    }

    /** The bytes of the latest reply in hexadecimal, up to the first that is not there. */
    String reply() {
        StringBuilder hex = new StringBuilder();
        int value = desk.reply(0);
        while (value != CardMessageDesk.NONE) {
            hex.append(String.format("%02x", value));
            value = desk.reply(hex.length() / 2);
        }
        return hex.toString();
    }

    /** The states of all entries in a row, as entry(k, 3) tells them. */
    String states() {
        return column(3);
    }

    String column(int what) {
        StringBuilder row = new StringBuilder();
        int count = desk.entries();
        for (int k = 0; k < count; k++) {
            row.append(k == 0 ? "" : " ").append(desk.entry(k, what));
        }
        return row.toString();
    }

    long net(String terminal) {
        return desk.net(Message.terminalNumber(terminal));
    }

    /** All that can be seen of the cards, the journal and what is settled, as one text. */
    String whole() {
        StringBuilder all = new StringBuilder();
        for (long card : CARDS) {
            all.append(desk.balance(card)).append('/').append(desk.available(card)).append(' ');
        }
        int count = desk.entries();
        for (int k = 0; k < count; k++) {
            all.append('[');
            for (int what = 0; what < 4; what++) {
                all.append(desk.entry(k, what)).append(' ');
            }
            all.append(desk.amount(k)).append("] ");
        }
        for (String terminal : TERMINALS) {
            all.append(terminal).append(' ').append(net(terminal)).append(' ');
        }
        return all.append("settled ").append(desk.settled()).toString();
    }
}
