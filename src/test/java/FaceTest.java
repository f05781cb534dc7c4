import java.lang.reflect.Constructor;
import java.lang.reflect.Field;
import java.lang.reflect.Member;
import java.lang.reflect.Method;
import java.lang.reflect.Modifier;
import java.util.Set;
import java.util.TreeSet;

/** The public face is the document's, and nothing beside it can be seen from outside. */
public final class FaceTest {
    private static final Set<String> FACE = new TreeSet<>(Set.of(
            "public static final int StablePartition.BAD",
            "public static final int StablePartition.NONE",
            "public StablePartition()",
            "public boolean StablePartition.colour(int,int)",
            "public boolean StablePartition.step(int,int,int,boolean)",
            "public boolean StablePartition.alike(int,int)",
            "public int StablePartition.classes()",
            "public int StablePartition.leader(int)",
            "public int StablePartition.members(int)",
            "public int StablePartition.told(int,int)",
            "public int StablePartition.leads(int,int)",
            "public int StablePartition.colours()",
            "public int StablePartition.reduce()",
            "public int StablePartition.rounds()"));

    private static int wrong = 0;

    private static void due(String what, Object got, Object want) {
        if (!got.equals(want)) {
            wrong++;
            System.out.println(what + " is " + got + ", due is " + want);
        }
    }

    public static void main(String[] args) {
        Set<String> seen = new TreeSet<>();
        for (Field field : StablePartition.class.getDeclaredFields()) {
            addIfSeen(seen, field, field.toString());
        }
        for (Constructor<?> made : StablePartition.class.getDeclaredConstructors()) {
            addIfSeen(seen, made, made.toString());
        }
        for (Method method : StablePartition.class.getDeclaredMethods()) {
            addIfSeen(seen, method, method.toString());
        }
        due("the face", seen, FACE);
        due("the class's modifiers", StablePartition.class.getModifiers(), Modifier.PUBLIC | Modifier.FINAL);
        due("BAD", StablePartition.BAD, -1);
        due("NONE", StablePartition.NONE, -2);
        System.out.println(wrong == 0 ? "all answers are as due" : wrong + " answers are not as due");
        if (wrong != 0) {
            System.exit(1);
        }
    }

    private static void addIfSeen(Set<String> seen, Member member, String text) {
        if (!Modifier.isPrivate(member.getModifiers())) {
            seen.add(text);
        }
    }
}
