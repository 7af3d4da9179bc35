import java.lang.reflect.Constructor;
import java.lang.reflect.Field;
import java.lang.reflect.Method;
import java.lang.reflect.Modifier;
import java.util.Arrays;
import java.util.Set;
import java.util.TreeSet;

/** The class shows the members of the document's face and no others. */
public final class FaceTest {
    private static final String[] FACE = {
        "public GameValues()",
        "public boolean GameValues.opposite(int,int)",
        "public boolean GameValues.wins(int,int)",
        "public boolean GameValues.winsSum(int,int,int)",
        "public int GameValues.above(int)",
        "public int GameValues.add(int,int)",
        "public int GameValues.compare(int,int)",
        "public int GameValues.compareSum(int,int,int)",
        "public int GameValues.depth(int)",
        "public int GameValues.dominated(int,int)",
        "public int GameValues.drop()",
        "public int GameValues.first(int)",
        "public int GameValues.moves(int,int)",
        "public int GameValues.positions()",
        "public int GameValues.values()",
        "public static final int GameValues.BAD",
        "public static final int GameValues.CONFUSED",
        "public static final int GameValues.EQUAL",
        "public static final int GameValues.FULL",
        "public static final int GameValues.GREATER",
        "public static final int GameValues.LESS",
    };

    public static void main(String[] args) {
        Set<String> shown = new TreeSet<>();
        for (Constructor<?> c : GameValues.class.getDeclaredConstructors()) {
            shown.add(c.toString());
        }
        for (Method m : GameValues.class.getDeclaredMethods()) {
            if (!Modifier.isPrivate(m.getModifiers())) {
                shown.add(m.toString());
            }
        }
        for (Field f : GameValues.class.getDeclaredFields()) {
            if (!Modifier.isPrivate(f.getModifiers())) {
                shown.add(f.toString());
            }
        }
        Set<String> due = new TreeSet<>(Arrays.asList(FACE));
        int modifiers = GameValues.class.getModifiers();
        boolean publicAndFinal = Modifier.isPublic(modifiers) && Modifier.isFinal(modifiers);
        if (!shown.equals(due) || !publicAndFinal) {
            System.out.println("the face is " + Modifier.toString(modifiers) + " " + shown);
            System.out.println("due is public final " + due);
            System.exit(1);
        }
        System.out.println("the face is as due");
    }
}
