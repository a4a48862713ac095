import java.lang.reflect.Constructor;
import java.lang.reflect.Field;
import java.lang.reflect.Member;
import java.lang.reflect.Method;
import java.lang.reflect.Modifier;
import java.util.Set;
import java.util.TreeSet;

/** The public face: every member of the document is there, and nothing else can be seen from outside. */
public final class FaceTest {
    private static final Set<String> FACE = Set.of(
        "public static final int UpgradeOptimiser.BAD",
        "public static final int UpgradeOptimiser.FULL",
        "public static final int UpgradeOptimiser.NONE",
        "public UpgradeOptimiser()",
        "public int UpgradeOptimiser.addPackage(int,int,int)",
        "public int UpgradeOptimiser.need(int,boolean,int,int)",
        "public int UpgradeOptimiser.orNeed(int,boolean,int,int)",
        "public int UpgradeOptimiser.clash(int,boolean,int,int)",
        "public boolean UpgradeOptimiser.install(int)",
        "public int UpgradeOptimiser.wish(int,boolean)",
        "public int UpgradeOptimiser.dropWishes()",
        "public boolean UpgradeOptimiser.right(int)",
        "public int UpgradeOptimiser.best()",
        "public int UpgradeOptimiser.cost(int)",
        "public int UpgradeOptimiser.rightSets()");

    public static void main(String[] args) {
        Check.due("BAD", UpgradeOptimiser.BAD, -1);
        Check.due("FULL", UpgradeOptimiser.FULL, -2);
        Check.due("NONE", UpgradeOptimiser.NONE, -3);

        Class<UpgradeOptimiser> type = UpgradeOptimiser.class;
        Check.due("the class is public", Modifier.isPublic(type.getModifiers()), true);
        Check.due("the class is final", Modifier.isFinal(type.getModifiers()), true);
        Check.due("nested classes", type.getDeclaredClasses().length, 0);

        Set<String> seen = new TreeSet<>();
        for (Field field : type.getDeclaredFields()) {
            note(seen, field, field.toString());
        }
        for (Constructor<?> constructor : type.getDeclaredConstructors()) {
            note(seen, constructor, constructor.toString());
        }
        for (Method method : type.getDeclaredMethods()) {
            note(seen, method, method.toString());
        }
        for (String member : FACE) {
            Check.due("there is " + member, seen.contains(member), true);
        }
        for (String member : seen) {
            Check.due("the document has " + member, FACE.contains(member), true);
        }
        Check.end();
    }

    private static void note(Set<String> seen, Member member, String text) {
        if (!Modifier.isPrivate(member.getModifiers())) {
            seen.add(text);
        }
    }
}
