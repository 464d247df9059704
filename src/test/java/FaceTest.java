import java.lang.reflect.Constructor;
import java.lang.reflect.Field;
import java.lang.reflect.Method;
import java.lang.reflect.Modifier;
import java.util.Arrays;
import java.util.TreeSet;

/** The class shows the members of the document's public face and no others. */
public final class FaceTest {
    private static final String[] FACE = {
        "public BitemporalTable()",
        "public int agree(int,int,int)",
        "public int at(int,int,int)",
        "public int count(int,int)",
        "public int difference(int,int,int)",
        "public int eraFrom(int,int,int)",
        "public int eras(int,int)",
        "public int now()",
        "public int periodFrom(int,int,int)",
        "public int periodTo(int,int,int)",
        "public int periods(int,int)",
        "public int rectangles(int)",
        "public int say(int,int,int,int)",
        "public int tick()",
        "public int unsay(int,int,int)",
        "public static final int BAD = -3",
        "public static final int FULL = -2",
        "public static final int NONE = -1",
    };

    private static String plain(String member) {
        return member.replace("BitemporalTable.", "");
    }

    private static TreeSet<String> shown() throws IllegalAccessException {
        TreeSet<String> shown = new TreeSet<>();
        for (Constructor<?> c : BitemporalTable.class.getDeclaredConstructors()) {
            shown.add(c.toString().replace("BitemporalTable.BitemporalTable", "BitemporalTable"));
        }
        for (Method m : BitemporalTable.class.getDeclaredMethods()) {
            if (!Modifier.isPrivate(m.getModifiers())) {
                shown.add(plain(m.toString()));
            }
        }
        for (Field f : BitemporalTable.class.getDeclaredFields()) {
            if (!Modifier.isPrivate(f.getModifiers())) {
                String value = Modifier.isStatic(f.getModifiers()) ? " = " + f.get(null) : "";
                shown.add(plain(f.toString()) + value);
            }
        }
        return shown;
    }

    public static void main(String[] args) throws IllegalAccessException {
        int wrong = 0;
        TreeSet<String> due = new TreeSet<>(Arrays.asList(FACE));
        TreeSet<String> got = shown();
        for (String member : due) {
            if (!got.contains(member)) {
                wrong++;
                System.out.println("missing: " + member);
            }
        }
        for (String member : got) {
            if (!due.contains(member)) {
                wrong++;
                System.out.println("not in the document: " + member);
            }
        }
        int kind = BitemporalTable.class.getModifiers();
        if (!Modifier.isPublic(kind) || !Modifier.isFinal(kind)) {
            wrong++;
            System.out.println("the class is not public and final");
        }
        System.out.println(wrong == 0 ? "the face is as due" : wrong + " members are not as due");
        if (wrong != 0) {
            System.exit(1);
        }
    }
}
