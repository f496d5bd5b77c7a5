import java.lang.reflect.Constructor;
import java.lang.reflect.Field;
import java.lang.reflect.Method;
import java.lang.reflect.Modifier;
import java.util.Set;
import java.util.TreeSet;

/** The class shows the public face of the document and nothing else. */
public final class FaceTest {
    private static final Set<String> FACE = Set.of(
        "public static final int FountainDesk.NONE",
        "public static final int FountainDesk.FULL",
        "public static final int FountainDesk.REFUSED",
        "public FountainDesk()",
        "public int FountainDesk.take(int,int)",
        "public boolean FountainDesk.drop(int)",
        "public int FountainDesk.drops()",
        "public int FountainDesk.known()",
        "public int FountainDesk.piece(int)",
        "public int FountainDesk.sum(int)",
        "public int FountainDesk.missing()",
        "public boolean FountainDesk.idle(int)",
        "public int FountainDesk.knownSums()",
        "public int FountainDesk.knownWith(int)",
        "public int FountainDesk.bestSet()",
        "public boolean FountainDesk.possible(int,int)",
        "public boolean FountainDesk.enough(int)");

    private static int wrong = 0;

    private static void due(String what, Object got, Object want) {
        if (!got.equals(want)) {
            wrong++;
            System.out.println(what + " is " + got + ", due is " + want);
        }
    }

    private static Set<String> shownMembers() {
        Set<String> shown = new TreeSet<>();
        for (Field f : FountainDesk.class.getDeclaredFields()) {
            if (!Modifier.isPrivate(f.getModifiers())) {
                shown.add(f.toString());
            }
        }
        for (Constructor<?> c : FountainDesk.class.getDeclaredConstructors()) {
            if (!Modifier.isPrivate(c.getModifiers())) {
                shown.add(c.toString());
            }
        }
        for (Method m : FountainDesk.class.getDeclaredMethods()) {
            if (!Modifier.isPrivate(m.getModifiers())) {
                shown.add(m.toString());
            }
        }
        return shown;
    }

    public static void main(String[] args) {
        due("NONE", FountainDesk.NONE, -1);
        due("FULL", FountainDesk.FULL, -2);
        due("REFUSED", FountainDesk.REFUSED, -3);
        due("the class", Modifier.toString(FountainDesk.class.getModifiers()), "public final");
        due("the face", shownMembers(), new TreeSet<>(FACE));
        System.out.println(wrong == 0 ? "the face is as due" : wrong + " parts of the face are not as due");
        if (wrong != 0) {
            System.exit(1);
        }
    }
}
