import java.util.ArrayList;
import java.util.List;
import java.util.TreeMap;
import java.util.regex.Matcher;
import java.util.regex.Pattern;

/** A second reading of the document, by texts and lists, with which the program is compared. */
final class PlainDesk {
    private static final String CHARACTER = "(?:[2-6][0-9a-f]|7[0-9a-e])";

    private static final class Line {
        String type;
        String terminal;
        String trace;
        String kind;
        long card;
        long amount;
        int answer;
        int state;
        int left;
    }

    private final TreeMap<Long, Long> balances = new TreeMap<>();
    private final List<Line> lines = new ArrayList<>();
    private final TreeMap<Integer, String> fields = new TreeMap<>();
    private String type = "";
    private String in = "";
    private String reply = "";
    private long settled = 0;
    private long net = 0;

    boolean open(long card, long balance) {
        if (card <= 0 || Long.toString(card).length() > 16 || balance < 0
                || balance > 1_000_000_000_000L || balances.containsKey(card)
                || balances.size() == 6) {
            return false;
        }
        balances.put(card, balance);
        return true;
    }

    int feed(long bytes, int n) {
        if (n < 1 || n > 8 || in.length() / 2 + n > 120) {
            return -1;
        }
        in += String.format("%016x", bytes).substring(16 - 2 * n);
        return in.length() / 2;
    }

    int handle() {
        String hex = in;
        in = "";
        reply = "";
        net = 0;
        if (!isRequest(hex)) {
            return 30;
        }
        int answer = answer();
        makeReply(answer);
        return answer;
    }

    int reply(int i) {
        return i < 0 || i >= reply.length() / 2 ? -1
            : Integer.parseInt(reply.substring(2 * i, 2 * i + 2), 16);
    }

    boolean tick(int n) {
        if (n < 0 || n > 1000) {
            return false;
        }
        for (Line line : lines) {
            line.left -= n;
            if (line.state == 1 && line.left <= 0) {
                line.state = 0;
            }
        }
        return true;
    }

    long balance(long card) {
        return balances.getOrDefault(card, -(1L << 40));
    }

    long available(long card) {
        return balance(card) - lines.stream().filter(line -> line.state == 1 && line.card == card)
            .mapToLong(line -> line.amount).sum();
    }

    int entries() {
        return lines.size();
    }

    int entry(int k, int what) {
        if (k < 0 || k >= lines.size() || what < 0 || what > 3) {
            return -1;
        }
        Line line = lines.get(k);
        return List.of(Integer.parseInt(line.type), Integer.parseInt(line.trace), line.answer,
            line.state).get(what);
    }

    long amount(int k) {
        return k < 0 || k >= lines.size() ? -1 : lines.get(k).amount;
    }

    long net(int terminal) {
        return netOf(String.format("%08x", terminal));
    }

    long settled() {
        return settled;
    }

    private long netOf(String terminal) {
        return lines.stream().filter(line -> line.terminal.equals(terminal) && counts(line))
            .mapToLong(line -> line.kind.equals("20") ? line.amount : -line.amount).sum();
    }

    private static boolean counts(Line line) {
        return line.type.equals("0200") && line.answer == 0 && line.state != 3;
    }

    private boolean isRequest(String hex) {
        fields.clear();
        Matcher head = Pattern.compile("([0-9]{2}0[0-9])([0-9a-f]{16})(.*)").matcher(hex);
        if (!head.matches()) {
            return false;
        }
        type = head.group(1);
        String rest = head.group(3);
        StringBuilder names = new StringBuilder();
        for (int field = 1; field <= 64; field++) {
            if ((Long.parseUnsignedLong(head.group(2), 16) >>> (64 - field) & 1) == 0) {
                continue;
            }
            String found = fieldAtStart(field, rest);
            if (found == null) {
                return false;
            }
            fields.put(field, found);
            rest = rest.substring(found.length());
            names.append(field == 48 ? "" : field + " ");
        }
        return rest.isEmpty() && names.toString().matches(setsOf(type));
    }

    private static String setsOf(String type) {
        switch (type) {
            case "0100":
                return "2 3 4 11 41 ";
            case "0200":
                return "2 3 4 11 41 (56 )?";
            case "0400":
                return "2 11 41 56 ";
            case "0500":
                return "11 41 ";
            default:
                return "(2 )?(3 )?(4 )?11 41 (56 )?";
        }
    }

    private static String fieldAtStart(int field, String rest) {
        Matcher matcher = Pattern.compile(formOf(field, rest)).matcher(rest);
        return matcher.lookingAt() ? matcher.group() : null;
    }

    private static String formOf(int field, String rest) {
        switch (field) {
            case 2:
                String count = rest.substring(0, Math.min(2, rest.length()));
                if (!count.matches("0[1-9]|1[0-6]")) {
                    return "x";
                }
                int digits = Integer.parseInt(count);
                return count + "0".repeat(digits % 2) + "[0-9]{" + digits + "}";
            case 3:
            case 11:
                return "[0-9]{6}";
            case 4:
                return "[0-9]{12}";
            case 41:
                return CHARACTER + "{4}";
            case 48:
                String many = rest.substring(0, Math.min(4, rest.length()));
                return many.matches("00[0-3][0-9]|0040")
                    ? many + CHARACTER + "{" + Integer.parseInt(many) + "}" : "x";
            case 56:
                return "06[0-9]{6}";
            default:
                return "x";
        }
    }

    private int answer() {
        Line line = new Line();
        line.type = type;
        line.terminal = fields.get(41);
        line.trace = fields.get(11);
        line.kind = fields.getOrDefault(3, "000000").substring(0, 2);
        line.card = Long.parseLong(fields.getOrDefault(2, "000").substring(2));
        line.amount = Long.parseLong(fields.getOrDefault(4, "0"));
        line.left = 50;
        for (Line old : lines) {
            if ((old.type + old.terminal + old.trace).equals(type + line.terminal + line.trace)) {
                return old.answer;
            }
        }
        if (!type.matches("0[1245]00")) {
            return 12;
        }
        if (lines.size() >= (type.equals("0500") ? 32 : 24)) {
            return 96;
        }
        line.answer = answerNew(line);
        line.state = type.equals("0100") && line.answer == 0 ? 1 : 0;
        lines.add(line);
        return line.answer;
    }

    private int answerNew(Line line) {
        if (type.equals("0500")) {
            net = netOf(line.terminal);
            settled += net;
            lines.removeIf(old -> old.terminal.equals(line.terminal) && old.state != 1);
            return 0;
        }
        if (!balances.containsKey(line.card)) {
            return 14;
        }
        boolean fits = line.amount <= available(line.card);
        switch (type + (type.equals("0400") ? "" : line.kind)) {
            case "010000":
                return fits ? 0 : 51;
            case "020000":
                return fields.containsKey(56) ? complete(line) : fits ? move(line, -1) : 51;
            case "020020":
                return fields.containsKey(56) ? 12 : move(line, 1);
            case "0400":
                return reverse(line);
            default:
                return 12;
        }
    }

    private int move(Line line, int sign) {
        balances.merge(line.card, sign * line.amount, Long::sum);
        return 0;
    }

    private boolean isOriginal(Line old, Line line) {
        return old.trace.equals(fields.get(56).substring(2)) && old.card == line.card
            && old.terminal.equals(line.terminal);
    }

    private int complete(Line line) {
        for (Line old : lines) {
            if (old.state == 1 && isOriginal(old, line)) {
                if (line.amount > old.amount) {
                    return 51;
                }
                old.state = 2;
                return move(line, -1);
            }
        }
        return 25;
    }

    private int reverse(Line line) {
        Line found = null;
        for (Line old : lines) {
            if ((old.state == 1 || counts(old)) && isOriginal(old, line)) {
                found = old;
            }
        }
        if (found == null) {
            return 25;
        }
        if (found.type.equals("0200")) {
            move(found, found.kind.equals("20") ? -1 : 1);
        }
        found.state = 3;
        return 0;
    }

    private void makeReply(int answer) {
        fields.remove(48);
        fields.remove(56);
        fields.put(39, "3" + answer / 10 + "3" + answer % 10);
        if (type.equals("0500")) {
            String size = "0".repeat(12) + Long.toString(net).replace("-", "");
            fields.put(4, size.substring(size.length() - 12));
        }
        long map = 0;
        for (int field : fields.keySet()) {
            map |= 1L << (64 - field);
        }
        reply = type.substring(0, 2) + "1" + type.substring(3) + String.format("%016x", map)
            + String.join("", fields.values());
    }
}
