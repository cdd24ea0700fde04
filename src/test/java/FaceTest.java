import java.lang.reflect.Constructor;
import java.lang.reflect.Field;
import java.lang.reflect.Method;
import java.lang.reflect.Modifier;
import java.util.TreeSet;

/** The class has the document's face and nothing else that is not private. */
public final class FaceTest {
    private static final String[] FACE = {
        "public static final int PilotTugs.NONE",
        "public PilotTugs()",
        "public int PilotTugs.person(int,int,int,int) throws java.lang.IllegalArgumentException,java.lang.IllegalStateException",
        "public int PilotTugs.tug(int) throws java.lang.IllegalArgumentException,java.lang.IllegalStateException",
        "public int PilotTugs.job(int,int,int,int,int) throws java.lang.IllegalArgumentException,java.lang.IllegalStateException",
        "public boolean PilotTugs.travels(int,int,int)",
        "public boolean PilotTugs.rest(int)",
        "public boolean PilotTugs.rule(int,int)",
        "public int PilotTugs.assign()",
        "public int PilotTugs.of(int,int) throws java.lang.IndexOutOfBoundsException,java.lang.IllegalStateException",
        "public int PilotTugs.late(int,int) throws java.lang.IndexOutOfBoundsException,java.lang.IllegalArgumentException,java.lang.IllegalStateException",
        "public int PilotTugs.day(int,int) throws java.lang.IndexOutOfBoundsException,java.lang.IllegalStateException",
        "public int PilotTugs.waits(int) throws java.lang.IndexOutOfBoundsException,java.lang.IllegalStateException",
        "public int PilotTugs.share(int,int) throws java.lang.IllegalArgumentException,java.lang.ArithmeticException",
        "public int PilotTugs.count(int)",
    };

    public static void main(String[] args) {
        TreeSet<String> due = new TreeSet<>();
        for (String member : FACE) {
            due.add(member);
        }
        TreeSet<String> got = new TreeSet<>();
        for (Field f : PilotTugs.class.getDeclaredFields()) {
            if (!Modifier.isPrivate(f.getModifiers())) {
                got.add(f.toString());
            }
        }
        for (Constructor<?> c : PilotTugs.class.getDeclaredConstructors()) {
            if (!Modifier.isPrivate(c.getModifiers())) {
                got.add(c.toString());
            }
        }
        for (Method m : PilotTugs.class.getDeclaredMethods()) {
            if (!Modifier.isPrivate(m.getModifiers()) && !m.isSynthetic()) {
                got.add(m.toString());
            }
        }
        Check check = new Check();
        check.dueText("the face", got.toString(), due.toString());
        check.due("the class's modifiers", PilotTugs.class.getModifiers(), Modifier.PUBLIC | Modifier.FINAL);
        check.due("NONE", PilotTugs.NONE, -1);
        check.end();
    }
}
