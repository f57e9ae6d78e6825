import java.lang.reflect.Constructor;
import java.lang.reflect.Field;
import java.lang.reflect.Method;
import java.lang.reflect.Modifier;
import java.util.Set;
import java.util.TreeSet;

// The class shows what the document's face says, and no member beside it.
public final class FaceTest {
    private static final Set<String> FACE = Set.of(
        "VoteWatch()", "int stake(int,int)", "int vote(int,int,int)", "int offender(int)",
        "int offended()", "int justified(int)", "int isFinal(int)", "int highest()",
        "int justifiedIn(int)", "int support(int,int)", "int votes(int)");

    private static final Set<String> seen = new TreeSet<>();
    private static int wrong = 0;

    private static void fault(String what) {
        wrong++;
        System.out.println(what);
    }

    public static void main(String[] args) {
        Class<?> face = VoteWatch.class;
        if (face.getModifiers() != (Modifier.PUBLIC | Modifier.FINAL)) {
            fault("the class is " + Modifier.toString(face.getModifiers()));
        }
        if (face.getDeclaredClasses().length != 0) {
            fault("there is a nested class");
        }
        for (Constructor<?> made : face.getDeclaredConstructors()) {
            see(made.getModifiers(), "VoteWatch" + list(made.getParameterTypes()));
        }
        for (Method method : face.getDeclaredMethods()) {
            see(method.getModifiers(), method.getReturnType().getSimpleName() + " "
                + method.getName() + list(method.getParameterTypes()));
        }
        for (Field field : face.getDeclaredFields()) {
            if (!Modifier.isPrivate(field.getModifiers())) {
                fault("a field is not private: " + field.getName());
            }
        }
        if (!seen.equals(FACE)) {
            fault("the face is " + seen + ", due is " + new TreeSet<>(FACE));
        }
        System.out.println(wrong == 0 ? "the face is as due" : wrong + " faults in the face");
        if (wrong != 0) {
            System.exit(1);
        }
    }

    private static void see(int modifiers, String member) {
        if (Modifier.isPrivate(modifiers)) {
            return;
        }
        if (modifiers != Modifier.PUBLIC) {
            fault(member + " is " + Modifier.toString(modifiers));
        }
        seen.add(member);
    }

    private static String list(Class<?>[] types) {
        StringBuilder text = new StringBuilder("(");
        for (Class<?> type : types) {
            text.append(text.length() > 1 ? "," : "").append(type.getSimpleName());
        }
        return text.append(")").toString();
    }
}
