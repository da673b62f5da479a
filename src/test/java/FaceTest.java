import java.lang.reflect.Constructor;
import java.lang.reflect.Field;
import java.lang.reflect.Method;
import java.lang.reflect.Modifier;
import java.util.Set;
import java.util.TreeSet;

/** The class shows the document's public face and nothing else. */
public final class FaceTest {
    private static final Set<String> DUE = new TreeSet<>(Set.of(
        "public static final int ResponseDesk.BAD",
        "public static final int ResponseDesk.FULL",
        "public static final int ResponseDesk.LATE",
        "public ResponseDesk()",
        "public int ResponseDesk.add(int,int,int)",
        "public boolean ResponseDesk.remove(int)",
        "public boolean ResponseDesk.place(int,int)",
        "public int ResponseDesk.tasks()",
        "public int ResponseDesk.at(int)",
        "public int ResponseDesk.response(int)",
        "public boolean ResponseDesk.good()",
        "public int ResponseDesk.inTime()",
        "public int ResponseDesk.goodOrders()",
        "public boolean ResponseDesk.arrange()",
        "public int ResponseDesk.canBeLast()",
        "public int ResponseDesk.greatestCost(int)",
        "public int ResponseDesk.leastPeriod(int)",
        "public int ResponseDesk.idle(int)",
        "public boolean ResponseDesk.fits(int,int,int)"));

    private static Set<String> shown() {
        Set<String> shown = new TreeSet<>();
        for (Field f : ResponseDesk.class.getDeclaredFields()) {
            if (!Modifier.isPrivate(f.getModifiers())) {
                shown.add(f.toString());
            }
        }
        for (Constructor<?> c : ResponseDesk.class.getDeclaredConstructors()) {
            if (!Modifier.isPrivate(c.getModifiers())) {
                shown.add(c.toString());
            }
        }
        for (Method m : ResponseDesk.class.getDeclaredMethods()) {
            if (!Modifier.isPrivate(m.getModifiers())) {
                shown.add(m.toString());
            }
        }
        return shown;
    }

    public static void main(String[] args) {
        Set<String> shown = shown();
        boolean sealed = Modifier.toString(ResponseDesk.class.getModifiers()).equals("public final");
        if (!shown.equals(DUE) || !sealed) {
            System.out.println("due is  " + DUE + ", public final");
            System.out.println("face is " + shown + ", " + Modifier.toString(ResponseDesk.class.getModifiers()));
            System.exit(1);
        }
        System.out.println("the face is as due");
    }
}
