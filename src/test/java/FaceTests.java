import java.lang.reflect.Constructor;
import java.lang.reflect.Field;
import java.lang.reflect.Method;
import java.lang.reflect.Modifier;
import java.util.Arrays;
import java.util.TreeSet;

// The class has the document's face and nothing else that can be seen from outside.
public final class FaceTests {
    private static final String[] FACE = {
        "public static final int BAD_OWNER = -1",
        "public static final int BAD_COIN = -2",
        "public static final int BAD_AMOUNT = -3",
        "public static final int FULL = -4",
        "public static final int NO_BLOCK = -5",
        "public static final int NO_TX = -6",
        "public static final int BAD_WORK = -7",
        "public ReorgLedger()",
        "public int ReorgLedger.transaction(int,int,int,int)",
        "public int ReorgLedger.block(int,int,int)",
        "public int ReorgLedger.ban(int,boolean)",
        "public int ReorgLedger.tip()",
        "public boolean ReorgLedger.valid(int)",
        "public int ReorgLedger.total(int)",
        "public int ReorgLedger.balance(int)",
        "public boolean ReorgLedger.unspent(int)",
        "public int ReorgLedger.confirmations(int)",
        "public int ReorgLedger.shared(int,int)",
        "public boolean ReorgLedger.fits(int)",
    };

    public static void main(String[] args) throws IllegalAccessException {
        TreeSet<String> want = new TreeSet<>(Arrays.asList(FACE));
        TreeSet<String> got = visibleMembers();
        boolean right = got.equals(want) && ReorgLedger.class.getModifiers() == (Modifier.PUBLIC | Modifier.FINAL);
        if (!right) {
            System.out.println("the face is " + got + ", due is " + want);
            System.exit(1);
        }
        System.out.println("the face is as due");
    }

    private static TreeSet<String> visibleMembers() throws IllegalAccessException {
        TreeSet<String> seen = new TreeSet<>();
        for (Field field : ReorgLedger.class.getDeclaredFields()) {
            if (!Modifier.isPrivate(field.getModifiers())) {
                seen.add(Modifier.toString(field.getModifiers()) + " " + field.getType() + " " + field.getName()
                    + (Modifier.isStatic(field.getModifiers()) ? " = " + field.get(null) : ""));
            }
        }
        for (Constructor<?> constructor : ReorgLedger.class.getDeclaredConstructors()) {
            seen.add(constructor.toString());
        }
        for (Method method : ReorgLedger.class.getDeclaredMethods()) {
            if (!Modifier.isPrivate(method.getModifiers())) {
                seen.add(method.toString());
            }
        }
        return seen;
    }
}
