import java.lang.reflect.Constructor;
import java.lang.reflect.Field;
import java.lang.reflect.Method;
import java.lang.reflect.Modifier;
import java.util.Set;
import java.util.TreeSet;

/** Promise 1: construction, answers that never change, no exceptions; and the public face. */
public final class ConstructionTest {
    public static void main(String[] args) {
        publicFace();
        sameAnswersAlways();
        Check.finish();
    }

    private static void publicFace() {
        int modifiers = Adam7.class.getModifiers();
        Check.holds("the class is public and final", Modifier.isPublic(modifiers) && Modifier.isFinal(modifiers));

        Constructor<?>[] constructors = Adam7.class.getDeclaredConstructors();
        Check.holds("there is one constructor, public and without arguments", constructors.length == 1
            && constructors[0].getParameterCount() == 0 && Modifier.isPublic(constructors[0].getModifiers()));

        Set<String> face = new TreeSet<>();
        for (Method method : Adam7.class.getDeclaredMethods()) {
            if (!Modifier.isPrivate(method.getModifiers())) {
                face.add(method.toString());
            }
        }
        Set<String> dueFace = Set.of(
            "public int Adam7.passOf(int,int)",
            "public int Adam7.widthIn(int,int)",
            "public int Adam7.place(int,int,int)");
        Check.holds("the methods that are not private are the document's: " + face, face.equals(dueFace));

        for (Field field : Adam7.class.getDeclaredFields()) {
            Check.holds("field " + field.getName() + " is private", Modifier.isPrivate(field.getModifiers()));
        }
        Check.holds("there is no nested class", Adam7.class.getDeclaredClasses().length == 0);
    }

    /** A first pass over all calls, then the same backwards on the same object and on new ones. */
    private static void sameAnswersAlways() {
        Adam7 used = new Adam7();
        int[] first = new int[Table.EDGES.length * Table.EDGES.length * 3];
        for (int i = 0; i < first.length; i++) {
            first[i] = answer(used, i);
        }
        for (int i = first.length - 1; i >= 0; i--) {
            Check.due("call " + i + " again on the same object", answer(used, i), first[i]);
            Check.due("call " + i + " on a new object", answer(new Adam7(), i), first[i]);
        }
        for (int times = 0; times < 100000; times++) {
            Check.due("passOf(4, 0) time " + times, used.passOf(4, 0), 1);
            Check.due("widthIn(3, 5) time " + times, used.widthIn(3, 5), 1);
            Check.due("place(5, 2, 3) time " + times, used.place(5, 2, 3), 393221);
        }
    }

    private static int answer(Adam7 adam7, int call) {
        int a = Table.EDGES[call / 3 % Table.EDGES.length];
        int b = Table.EDGES[call / 3 / Table.EDGES.length];
        switch (call % 3) {
            case 0: return adam7.passOf(a, b);
            case 1: return adam7.widthIn(a, b);
            default: return adam7.place(a, b, a ^ b);
        }
    }
}
