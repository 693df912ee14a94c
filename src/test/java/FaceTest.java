import java.lang.reflect.Constructor;
import java.lang.reflect.Field;
import java.lang.reflect.Method;
import java.lang.reflect.Modifier;
import java.util.Set;
import java.util.TreeSet;

/** The class shows just the document's face: nothing less, and nothing more that is not private. */
public final class FaceTest {
    private static final Set<String> FACE = Set.of(
            "public static final int TestPatterns.NONE",
            "public static final int TestPatterns.FULL",
            "public TestPatterns()",
            "public int TestPatterns.gate(int,int,int)",
            "public int TestPatterns.drop()",
            "public boolean TestPatterns.watch(int,boolean)",
            "public int TestPatterns.lines()",
            "public int TestPatterns.watched()",
            "public int TestPatterns.value(int,int)",
            "public boolean TestPatterns.shows(int,int,int)",
            "public int TestPatterns.test(int,int)",
            "public int TestPatterns.testFrom(int,int,int)",
            "public int TestPatterns.hidden(int)",
            "public int TestPatterns.shownBy(int)",
            "public int TestPatterns.bestVector()",
            "public boolean TestPatterns.alike(int,int,int,int)",
            "public int TestPatterns.ones(int)");

    public static void main(String[] args) {
        Class<?> type = TestPatterns.class;
        Set<String> members = new TreeSet<>();
        for (Field field : type.getDeclaredFields()) {
            add(members, field.getModifiers(), field.toString());
        }
        for (Method method : type.getDeclaredMethods()) {
            add(members, method.getModifiers(), method.toString());
        }
        for (Constructor<?> constructor : type.getDeclaredConstructors()) {
            add(members, constructor.getModifiers(), constructor.toString());
        }
        for (String member : FACE) {
            Due.equal("face has " + member, members.contains(member), true);
        }
        for (String member : members) {
            Due.equal("face may have " + member, FACE.contains(member), true);
        }
        Due.equal("class is public final", type.getModifiers(), Modifier.PUBLIC | Modifier.FINAL);
        Due.equal("nested classes", type.getDeclaredClasses().length, 0);
        Due.end();
    }

    private static void add(Set<String> members, int modifiers, String member) {
        if (!Modifier.isPrivate(modifiers)) {
            members.add(member);
        }
    }
}
