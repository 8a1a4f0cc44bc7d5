import java.lang.reflect.Constructor;
import java.lang.reflect.Field;
import java.lang.reflect.Method;
import java.lang.reflect.Modifier;
import java.util.Arrays;
import java.util.TreeSet;

/** Promise 1: the face, and a new object. */
final class NewObjectTest {
    private static final Checks CHECKS = new Checks();

    public static void main(String[] args) throws Exception {
        face();
        constants();
        empty();
        objectsAreApart();
        CHECKS.end();
    }

    private static void face() {
        TreeSet<String> seen = new TreeSet<>();
        for (Method method : CardMessageDesk.class.getDeclaredMethods()) {
            if (!Modifier.isPrivate(method.getModifiers())) {
                seen.add(method.toString().replace("CardMessageDesk.", ""));
            }
        }
        for (Constructor<?> made : CardMessageDesk.class.getDeclaredConstructors()) {
            seen.add(made.toString());
        }
        for (Field field : CardMessageDesk.class.getDeclaredFields()) {
            if (!Modifier.isPrivate(field.getModifiers())) {
                seen.add(field.toString().replace("CardMessageDesk.", ""));
            }
        }
        TreeSet<String> due = new TreeSet<>(Arrays.asList(
            "public CardMessageDesk()", "public static final int NONE",
            "public static final int FORMAT", "public boolean open(long,long)",
            "public int feed(long,int)", "public int handle()", "public int reply(int)",
            "public boolean tick(int)", "public long balance(long)",
            "public long available(long)", "public int entries()", "public int entry(int,int)",
            "public long amount(int)", "public long net(int)", "public long settled()"));
        CHECKS.due("the face", seen.toString(), due.toString());
        int modifiers = CardMessageDesk.class.getModifiers();
        CHECKS.due("the class", Modifier.toString(modifiers), "public final");
    }

    private static void constants() throws Exception {
        CHECKS.due("NONE", CardMessageDesk.class.getField("NONE").getInt(null), -1);
        CHECKS.due("FORMAT", CardMessageDesk.class.getField("FORMAT").getInt(null), 30);
    }

    private static void empty() {
        CardMessageDesk desk = new CardMessageDesk();
        CHECKS.due("entries()", desk.entries(), 0);
        CHECKS.due("settled()", desk.settled(), 0);
        CHECKS.due("net(TERM)", desk.net(Message.terminalNumber("TERM")), 0);
        CHECKS.due("net(0)", desk.net(0), 0);
        CHECKS.due("balance(0)", desk.balance(0), Bench.MISSING);
        CHECKS.due("balance(1)", desk.balance(1), Bench.MISSING);
        CHECKS.due("available(0)", desk.available(0), Bench.MISSING);
        CHECKS.due("amount(0)", desk.amount(0), -1);
        for (int what = 0; what < 4; what++) {
            CHECKS.due("entry(0, " + what + ")", desk.entry(0, what), -1);
        }
        for (int i = -1; i < 130; i++) {
            CHECKS.due("reply(" + i + ")", desk.reply(i), -1);
        }
        CHECKS.due("the first feed", desk.feed(0, 1), 1);
    }

    private static void objectsAreApart() {
        Bench one = new Bench();
        Bench other = new Bench();
        one.desk.open(5, 100);
        one.send(Message.debit(5, 30, 1));
        one.feed("0100");
        CHECKS.due("balance of the other", other.desk.balance(5), Bench.MISSING);
        CHECKS.due("entries of the other", other.desk.entries(), 0);
        CHECKS.due("reply of the other", other.reply(), "");
        CHECKS.due("feed of the other", other.desk.feed(1, 1), 1);
    }
}
