/** A desk with the ways in which tests talk to it. */
final class Bench {
    final CardMessageDesk desk = new CardMessageDesk();

    /** A new desk that has card 5 with a balance of 100. */
    static Bench withOneCard() {
        Bench bench = new Bench();
        bench.desk.open(5, 100);
        return bench;
    }

    /** A new desk that has card 77 with a balance of 1000, too. */
    static Bench withTwoCards() {
        Bench bench = withOneCard();
        bench.desk.open(77, 1000);
        return bench;
    }

    /** Feeds bytes that are written in hexadecimal; the answer of the last feed. */
    int feed(String hex) {
        int answer = 0;
        for (int i = 0; i < hex.length(); i += 16) {
            String part = hex.substring(i, Math.min(hex.length(), i + 16));
            answer = desk.feed(Long.parseUnsignedLong(part, 16), part.length() / 2);
        }
        return answer;
    }

    int send(String hex) {
        feed(hex);
        return desk.handle();
    }

    int send(Message message) {
        return send(message.hex());
    }

    /** The bytes of the latest reply in hexadecimal, up to the first that is not there. */
    String reply() {
        StringBuilder hex = new StringBuilder();
        for (int i = 0; desk.reply(i) != CardMessageDesk.NONE; i++) {
            hex.append(String.format("%02x", desk.reply(i)));
        }
        return hex.toString();
    }

    /** The states of all entries in a row, as entry(k, 3) tells them. */
    String states() {
        return column(3);
    }

    String column(int what) {
        StringBuilder row = new StringBuilder();
        for (int k = 0; k < desk.entries(); k++) {
            row.append(k == 0 ? "" : " ").append(desk.entry(k, what));
        }
        return row.toString();
    }
}
