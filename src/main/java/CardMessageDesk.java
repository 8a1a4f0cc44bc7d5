/**
 * Takes messages of card terminals as bytes, answers each with bytes, and keeps the cards' money.
 * All rows are made with the object and used again, so that no call makes anything new.
 */
public final class CardMessageDesk {
    public static final int NONE = -1;
    public static final int FORMAT = 30;

    private static final int APPROVED = 0;
    private static final int INVALID = 12;
    private static final int UNKNOWN_CARD = 14;
    private static final int UNKNOWN_ORIGINAL = 25;
    private static final int TOO_MUCH = 51;
    private static final int JOURNAL_FULL = 96;

    private static final int HOLD_TYPE = 100;
    private static final int MONEY_TYPE = 200;
    private static final int REVERSAL_TYPE = 400;
    private static final int SETTLEMENT_TYPE = 500;

    /** The first two digits of a sort. */
    private static final int DEBIT = 0;
    private static final int CREDIT = 20;

    private static final int PLAIN = 0;
    private static final int HELD = 1;
    private static final int COMPLETED = 2;
    private static final int REVERSED = 3;

    /** The fields as bits of the map: field k is bit 64 - k of a long. */
    private static final long CARD = 1L << 62;
    private static final long SORT = 1L << 61;
    private static final long AMOUNT = 1L << 60;
    private static final long TRACE = 1L << 53;
    private static final long ANSWER = 1L << 25;
    private static final long TERMINAL = 1L << 23;
    private static final long NOTE = 1L << 16;
    private static final long ORIGINAL = 1L << 8;

    private static final int FIELDS_START = 10;
    private static final int TERMINAL_LENGTH = 4;
    private static final int IN_LIMIT = 120;
    /** The longest reply has the type, the map and the fields 2, 3, 4, 11, 39, 41. */
    private static final int REPLY_LIMIT = 37;
    private static final int CARD_LIMIT = 6;
    private static final int JOURNAL_LIMIT = 24;
    private static final int SETTLEMENT_LIMIT = 32;
    private static final int HOLD_TICKS = 50;
    private static final int TICK_LIMIT = 1000;
    private static final long CARD_NUMBER_LIMIT = 9999999999999999L;
    private static final long BALANCE_LIMIT = 1000000000000L;
    private static final long NO_BALANCE = -1099511627776L;

    private final ByteRow in;
    private final ByteRow latestReply;
    private final Request request;
    private final Cards cards;
    private final Journal journal;
    private long settledSum;
    /** What the request in hand has settled, for its reply. */
    private long settledNow;

    public CardMessageDesk() {
        in = new ByteRow(IN_LIMIT);
        latestReply = new ByteRow(REPLY_LIMIT);
        request = new Request(in);
        cards = new Cards();
        journal = new Journal();
        settledSum = 0;
        settledNow = 0;
    }

    public boolean open(long card, long balance) {
        if (card < 1 || card > CARD_NUMBER_LIMIT || balance < 0 || balance > BALANCE_LIMIT) {
            return false;
        }
        return cards.add(card, balance);
    }

    public int feed(long bytes, int n) {
        if (n < 1 || n > 8 || in.size + n > IN_LIMIT) {
            return NONE;
        }
        in.appendBytes(bytes, n);
        return in.size;
    }

    public int handle() {
        latestReply.clear();
        settledNow = 0;
        int answer = FORMAT;
        if (request.readWhole()) {
            answer = answerRequest();
            writeReply(answer);
        }
        in.clear();
        return answer;
    }

    public int reply(int i) {
        return latestReply.byteAt(i);
    }

    public boolean tick(int n) {
        if (n < 0 || n > TICK_LIMIT) {
            return false;
        }
        journal.time += n;
        return true;
    }

    public long balance(long card) {
        Account account = cards.find(card);
        return account == null ? NO_BALANCE : account.balance;
    }

    public long available(long card) {
        Account account = cards.find(card);
        return account == null ? NO_BALANCE : journal.availableOn(account);
    }

    public int entries() {
        return journal.size;
    }

    public int entry(int k, int what) {
        Entry line = journal.lineAt(k);
        if (line == null) {
            return NONE;
        }
        switch (what) {
            case 0:
                return line.type;
            case 1:
                return line.trace;
            case 2:
                return line.answer;
            case 3:
                return line.stateAt(journal.time);
            default:
                return NONE;
        }
    }

    public long amount(int k) {
        Entry line = journal.lineAt(k);
        return line == null ? NONE : line.amount;
    }

    public long net(int terminal) {
        return journal.netOf(terminal);
    }

    public long settled() {
        return settledSum;
    }

    private int answerRequest() {
        Entry same = journal.findSame(request);
        if (same != null) {
            return same.answer;
        }
        if (!isHandled(request.type)) {
            return INVALID;
        }
        if (journal.size >= journalLimit(request.type)) {
            return JOURNAL_FULL;
        }
        // The request is decided before its entry is made: a settlement must not take it out.
        int answer = decide();
        journal.add(request, answer);
        return answer;
    }

    private static boolean isHandled(int type) {
        return type == HOLD_TYPE || type == MONEY_TYPE
            || type == REVERSAL_TYPE || type == SETTLEMENT_TYPE;
    }

    private static int journalLimit(int type) {
        return type == SETTLEMENT_TYPE ? SETTLEMENT_LIMIT : JOURNAL_LIMIT;
    }

    private int decide() {
        if (request.type == SETTLEMENT_TYPE) {
            return settle();
        }
        Account account = cards.find(request.card);
        if (account == null) {
            return UNKNOWN_CARD;
        }
        switch (request.type) {
            case HOLD_TYPE:
                return decideHold(account);
            case MONEY_TYPE:
                return decideMoney(account);
            default:
                return reverse(account);
        }
    }

    private int decideHold(Account account) {
        if (request.sortKind() != DEBIT) {
            return INVALID;
        }
        return request.amount > journal.availableOn(account) ? TOO_MUCH : APPROVED;
    }

    private int decideMoney(Account account) {
        boolean namesHold = request.has(ORIGINAL);
        switch (request.sortKind()) {
            case DEBIT:
                return namesHold ? complete(account) : debit(account);
            case CREDIT:
                return namesHold ? INVALID : credit(account);
            default:
                return INVALID;
        }
    }

    private int complete(Account account) {
        Entry hold = journal.findHold(request);
        if (hold == null) {
            return UNKNOWN_ORIGINAL;
        }
        if (request.amount > hold.amount) {
            return TOO_MUCH;
        }
        hold.state = COMPLETED;
        account.balance -= request.amount;
        return APPROVED;
    }

    private int debit(Account account) {
        if (request.amount > journal.availableOn(account)) {
            return TOO_MUCH;
        }
        account.balance -= request.amount;
        return APPROVED;
    }

    private int credit(Account account) {
        account.balance += request.amount;
        return APPROVED;
    }

    private int reverse(Account account) {
        Entry original = journal.findReversible(request);
        if (original == null) {
            return UNKNOWN_ORIGINAL;
        }
        account.balance -= original.moved();
        original.state = REVERSED;
        return APPROVED;
    }

    private int settle() {
        settledNow = journal.netOf(request.terminal);
        settledSum += settledNow;
        journal.takeOut(request.terminal);
        return APPROVED;
    }

    private void writeReply(int answer) {
        boolean tellsNet = request.type == SETTLEMENT_TYPE;
        long echoed = request.map & Request.ECHOED;
        // The third digit of a request's type is 0, so that 10 more makes it 1.
        latestReply.appendDigits(request.type + 10, 4);
        latestReply.appendBytes(echoed | ANSWER | (tellsNet ? AMOUNT : 0), 8);
        if (tellsNet) {
            // A settlement has none of the fields 2, 3, 4, so field 4 comes first.
            latestReply.appendDigits(Math.abs(settledNow), 12);
        }
        // Of the fields before 41 a request has none but 2, 3, 4, 11: the reply has them all.
        int terminalStart = request.terminalStart;
        latestReply.appendFrom(in, FIELDS_START, terminalStart);
        latestReply.append('0' + answer / 10);
        latestReply.append('0' + answer % 10);
        latestReply.appendFrom(in, terminalStart, terminalStart + TERMINAL_LENGTH);
    }

    /** Bytes 0 .. 255, as many as there is room for. */
    private static final class ByteRow {
        private final int[] bytes;
        private int size;

        ByteRow(int room) {
            bytes = new int[room];
            size = 0;
        }

        void clear() {
            size = 0;
        }

        int byteAt(int i) {
            return i >= 0 && i < size ? bytes[i] : NONE;
        }

        void append(int value) {
            if (size < bytes.length) {
                bytes[size] = value & 255;
                size++;
            }
        }

        /** Appends the n lowest bytes of a long, the highest of them first. */
        void appendBytes(long value, int n) {
            for (int i = n - 1; i >= 0; i--) {
                append((int) (value >>> (8 * i)));
            }
        }

        /** Appends the last digits of a number, an even count up to 16, two to a byte. */
        void appendDigits(long value, int digits) {
            long packed = 0;
            long rest = value;
            for (int i = 0; i < digits; i++) {
                packed |= (rest % 10) << (4 * i);
                rest /= 10;
            }
            appendBytes(packed, digits / 2);
        }

        void appendFrom(ByteRow other, int start, int end) {
            for (int i = start; i < end; i++) {
                append(other.byteAt(i));
            }
        }
    }

    /** Reads a row from its start. What is wrong once stays wrong: asking at the end is enough. */
    private static final class Reader {
        private final ByteRow row;
        private int place;
        private boolean good;

        Reader(ByteRow row) {
            this.row = row;
            place = 0;
            good = true;
        }

        void restart() {
            place = 0;
            good = true;
        }

        boolean isAtGoodEnd() {
            return good && place == row.size;
        }

        int readByte() {
            int value = row.byteAt(place);
            if (value == NONE) {
                good = false;
                return 0;
            }
            place++;
            return value;
        }

        long readBytes(int n) {
            long value = 0;
            for (int i = 0; i < n; i++) {
                value = (value << 8) | readByte();
            }
            return value;
        }

        long readDigits(int digits) {
            long value = 0;
            // The digit in front of an odd number of digits must be 0.
            int highest = digits % 2 == 0 ? 9 : 0;
            for (int i = 0; i < digits; i += 2) {
                int pair = readByte();
                int upper = pair >> 4;
                int lower = pair & 15;
                if (upper > highest || lower > 9) {
                    good = false;
                }
                value = value * 100 + upper * 10 + lower;
                highest = 9;
            }
            return value;
        }

        /** A number that says how much follows; out of bounds it is wrong, and nothing follows. */
        int readCount(int digits, int least, int most) {
            long count = readDigits(digits);
            if (count < least || count > most) {
                good = false;
                return 0;
            }
            return (int) count;
        }

        /** The last four of n characters, the first of them highest. */
        int readCharacters(int n) {
            int value = 0;
            for (int i = 0; i < n; i++) {
                int character = readByte();
                if (character < 32 || character > 126) {
                    good = false;
                }
                value = (value << 8) | character;
            }
            return value;
        }
    }

    /** The request in hand: what its fields say, 0 for each that is not there. */
    private static final class Request {
        private static final long ALWAYS = TRACE | TERMINAL;
        private static final long ECHOED = CARD | SORT | AMOUNT | TRACE | TERMINAL;
        private static final long ANY = ECHOED | NOTE | ORIGINAL;

        private final Reader reader;
        private int type;
        private long map;
        private long card;
        private int sort;
        private long amount;
        private int trace;
        private int terminal;
        private int terminalStart;
        private int originalTrace;

        Request(ByteRow row) {
            reader = new Reader(row);
        }

        boolean has(long field) {
            return (map & field) != 0;
        }

        int sortKind() {
            return sort / 10000;
        }

        /** Whether the row is a request from its first byte to its last. */
        boolean readWhole() {
            reader.restart();
            type = (int) reader.readDigits(4);
            map = reader.readBytes(8);
            if (type / 10 % 10 != 0 || !fieldsBelong()) {
                return false;
            }
            readMoneyFields();
            readOtherFields();
            return reader.isAtGoodEnd();
        }

        private boolean fieldsBelong() {
            long needed = neededFields(type);
            return (map & needed) == needed && (map & ~allowedFields(type)) == 0;
        }

        private static long neededFields(int type) {
            switch (type) {
                case HOLD_TYPE:
                case MONEY_TYPE:
                    return ECHOED;
                case REVERSAL_TYPE:
                    return ALWAYS | CARD | ORIGINAL;
                default:
                    return ALWAYS;
            }
        }

        private static long allowedFields(int type) {
            switch (type) {
                case HOLD_TYPE:
                case REVERSAL_TYPE:
                case SETTLEMENT_TYPE:
                    return neededFields(type) | NOTE;
                default:
                    return ANY;
            }
        }

        private void readMoneyFields() {
            card = has(CARD) ? reader.readDigits(reader.readCount(2, 1, 16)) : 0;
            sort = has(SORT) ? (int) reader.readDigits(6) : 0;
            amount = has(AMOUNT) ? reader.readDigits(12) : 0;
        }

        private void readOtherFields() {
            trace = (int) reader.readDigits(6);
            terminalStart = reader.place;
            terminal = reader.readCharacters(TERMINAL_LENGTH);
            if (has(NOTE)) {
                reader.readCharacters(reader.readCount(4, 0, 40));
            }
            originalTrace = 0;
            if (has(ORIGINAL)) {
                reader.readCount(2, 6, 6);
                originalTrace = (int) reader.readDigits(6);
            }
        }
    }

    /** A card and its balance. */
    private static final class Account {
        private long card;
        private long balance;
    }

    /** The cards that were opened. */
    private static final class Cards {
        private final Account[] accounts;
        private int count;

        Cards() {
            accounts = new Account[CARD_LIMIT];
            for (int k = 0; k < CARD_LIMIT; k++) {
                accounts[k] = new Account();
            }
            count = 0;
        }

        Account find(long card) {
            for (int k = 0; k < count; k++) {
                if (accounts[k].card == card) {
                    return accounts[k];
                }
            }
            return null;
        }

        boolean add(long card, long balance) {
            if (count >= CARD_LIMIT || find(card) != null) {
                return false;
            }
            accounts[count].card = card;
            accounts[count].balance = balance;
            count++;
            return true;
        }
    }

    /** An entry of the journal; it is filled anew after it was taken out. */
    private static final class Entry {
        private int type;
        private int terminal;
        private int trace;
        private long card;
        private int sortKind;
        private long amount;
        private int answer;
        private int state;
        private long made;

        void fill(Request request, int given, long time) {
            type = request.type;
            terminal = request.terminal;
            trace = request.trace;
            card = request.card;
            sortKind = request.sortKind();
            amount = request.amount;
            answer = given;
            state = type == HOLD_TYPE && given == APPROVED ? HELD : PLAIN;
            made = time;
        }

        boolean isHoldAt(long time) {
            return state == HELD && time - made < HOLD_TICKS;
        }

        int stateAt(long time) {
            return state == HELD && !isHoldAt(time) ? PLAIN : state;
        }

        /** A debit or credit that counts: answered 0 and not reversed. */
        boolean isPosted() {
            return type == MONEY_TYPE && answer == APPROVED && state != REVERSED;
        }

        /** What it has added to the balance: nothing, when it is no debit and no credit. */
        long moved() {
            if (!isPosted()) {
                return 0;
            }
            return sortKind == CREDIT ? amount : -amount;
        }

        boolean isOriginalOf(Request request) {
            return trace == request.originalTrace && terminal == request.terminal
                && card == request.card;
        }
    }

    /** The entries in the order in which they were made, and the time that ends their holds. */
    private static final class Journal {
        private final Entry[] lines;
        private int size;
        private long time;

        Journal() {
            lines = new Entry[SETTLEMENT_LIMIT];
            for (int k = 0; k < SETTLEMENT_LIMIT; k++) {
                lines[k] = new Entry();
            }
            size = 0;
            time = 0;
        }

        Entry lineAt(int k) {
            return k >= 0 && k < size ? lines[k] : null;
        }

        Entry findSame(Request request) {
            for (int k = 0; k < size; k++) {
                Entry line = lines[k];
                if (line.type == request.type && line.terminal == request.terminal
                        && line.trace == request.trace) {
                    return line;
                }
            }
            return null;
        }

        Entry findHold(Request request) {
            for (int k = 0; k < size; k++) {
                if (lines[k].isHoldAt(time) && lines[k].isOriginalOf(request)) {
                    return lines[k];
                }
            }
            return null;
        }

        /** From the end, as the entry that stands last is the one to be reversed. */
        Entry findReversible(Request request) {
            for (int k = size - 1; k >= 0; k--) {
                Entry line = lines[k];
                if ((line.isHoldAt(time) || line.isPosted()) && line.isOriginalOf(request)) {
                    return line;
                }
            }
            return null;
        }

        long availableOn(Account account) {
            long sum = account.balance;
            for (int k = 0; k < size; k++) {
                if (lines[k].card == account.card && lines[k].isHoldAt(time)) {
                    sum -= lines[k].amount;
                }
            }
            return sum;
        }

        long netOf(int terminal) {
            long sum = 0;
            for (int k = 0; k < size; k++) {
                if (lines[k].terminal == terminal) {
                    sum += lines[k].moved();
                }
            }
            return sum;
        }

        void add(Request request, int answer) {
            if (size < SETTLEMENT_LIMIT) {
                lines[size].fill(request, answer, time);
                size++;
            }
        }

        /** Takes out what is no hold of a terminal. */
        void takeOut(int terminal) {
            int kept = 0;
            for (int k = 0; k < size; k++) {
                Entry line = lines[k];
                if (line.terminal != terminal || line.isHoldAt(time)) {
                    // Changed round, not written over: what is taken out is filled again later.
                    lines[k] = lines[kept];
                    lines[kept] = line;
                    kept++;
                }
            }
            size = kept;
        }
    }
}
