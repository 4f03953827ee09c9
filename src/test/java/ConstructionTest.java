import java.lang.reflect.Constructor;
import java.lang.reflect.Field;
import java.lang.reflect.Method;
import java.lang.reflect.Modifier;
import java.util.Set;
import java.util.TreeSet;

/** Promise 1: construction, answers that never change, no exceptions; and the public face. */
public final class ConstructionTest {
    private static final int PASS_OF = 0;
    private static final int WIDTH_IN = 1;
    private static final int PLACE = 2;

    /** Method, arguments, answer: each kind of answer and of refusal, at the edges of each. */
    private static final int[][] CALLS = {
        {PASS_OF, 0, 0, 0, 0},
        {PASS_OF, 4, 0, 0, 1},
        {PASS_OF, 0, 4, 0, 2},
        {PASS_OF, 2, 0, 0, 3},
        {PASS_OF, 0, 2, 0, 4},
        {PASS_OF, 1, 0, 0, 5},
        {PASS_OF, 0, 1, 0, 6},
        {PASS_OF, -4, -8, 0, 1},
        {PASS_OF, Integer.MIN_VALUE, Integer.MIN_VALUE, 0, 0},
        {PASS_OF, Integer.MAX_VALUE, Integer.MAX_VALUE, 0, 6},
        {WIDTH_IN, -1, -5, 0, -1},
        {WIDTH_IN, 7, 100, 0, -1},
        {WIDTH_IN, Integer.MIN_VALUE, 8, 0, -1},
        {WIDTH_IN, 3, 0, 0, 0},
        {WIDTH_IN, 0, Integer.MIN_VALUE, 0, 0},
        {WIDTH_IN, 1, 4, 0, 0},
        {WIDTH_IN, 1, 5, 0, 1},
        {WIDTH_IN, 4, 5, 0, 3},
        {WIDTH_IN, 0, Integer.MAX_VALUE, 0, 268435456},
        {WIDTH_IN, 6, Integer.MAX_VALUE, 0, Integer.MAX_VALUE},
        {PLACE, 7, -1, 70000, -1},
        {PLACE, -1, 0, 0, -1},
        {PLACE, 2, 0, -1, -2},
        {PLACE, 0, 65536, 0, -2},
        {PLACE, 0, 8192, 0, -2},
        {PLACE, 6, 0, 16384, -2},
        {PLACE, 3, Integer.MAX_VALUE, Integer.MIN_VALUE, -2},
        {PLACE, 0, 0, 0, 0},
        {PLACE, 5, 2, 3, 393221},
        {PLACE, 0, 8191, 0, 65528},
        {PLACE, 6, 65535, 16383, 2147483647}
    };

    private static final String[] METHODS = {"passOf", "widthIn", "place"};

    public static void main(String[] args) {
        publicFace();
        constructionAlwaysSucceeds();
        newObjectCarriesTheTable();
        noCallChangesLaterAnswers();
        sameAnswerEveryTime();
        sameAnswerOnEveryObject();
        noMethodThrows();
        Check.finish();
    }

    private static int answer(Adam7 adam7, int method, int a, int b, int c) {
        switch (method) {
            case PASS_OF: return adam7.passOf(a, b);
            case WIDTH_IN: return adam7.widthIn(a, b);
            default: return adam7.place(a, b, c);
        }
    }

    private static void due(Adam7 adam7, int[] call) {
        int got = answer(adam7, call[0], call[1], call[2], call[3]);
        Check.due(got, call[4], METHODS[call[0]], call[1], call[2], call[3]);
    }

    private static void publicFace() {
        Check.sentence("The public face: final class, constructor, passOf, widthIn, place; no public constants");
        int modifiers = Adam7.class.getModifiers();
        Check.holds(Modifier.isPublic(modifiers) && Modifier.isFinal(modifiers), "not a public final class");

        Set<String> face = new TreeSet<>();
        for (Method method : Adam7.class.getDeclaredMethods()) {
            if (!Modifier.isPrivate(method.getModifiers())) {
                face.add(method.toString());
            }
        }
        Set<String> dueFace = Set.of(
            "public int Adam7.passOf(int,int)",
            "public int Adam7.widthIn(int,int)",
            "public int Adam7.place(int,int,int)");
        Check.holds(face.equals(dueFace), "the methods that are not private are " + face);

        for (Field field : Adam7.class.getDeclaredFields()) {
            Check.holds(Modifier.isPrivate(field.getModifiers()), "field " + field.getName() + " is not private");
        }
        Check.holds(Adam7.class.getDeclaredClasses().length == 0, "there is a nested class");
        // What is inherited would be public too.
        Check.holds(Adam7.class.getSuperclass() == Object.class, "it extends another class");
        Check.holds(Adam7.class.getInterfaces().length == 0, "it implements an interface");
    }

    private static void constructionAlwaysSucceeds() {
        Check.sentence("1: new Adam7() takes no arguments and always succeeds");
        Constructor<?>[] constructors = Adam7.class.getDeclaredConstructors();
        Check.holds(constructors.length == 1 && constructors[0].toString().equals("public Adam7()"),
            "not one public constructor, without arguments and without a throws clause");
        try {
            for (int times = 0; times < 100000; times++) {
                new Adam7();
            }
        } catch (Throwable thrown) {
            Check.holds(false, "new Adam7() threw " + thrown);
        }
    }

    /** A pass's first two columns and rows tell its four numbers. */
    private static void newObjectCarriesTheTable() {
        Check.sentence("1: the new object carries the pass table");
        for (int pass = 0; pass < Table.PASSES; pass++) {
            int first = new Adam7().place(pass, 0, 0);
            int nextColumn = new Adam7().place(pass, 1, 0);
            int nextRow = new Adam7().place(pass, 0, 1);
            Check.due(first & 65535, Table.XS[pass], "xs", pass);
            Check.due(first >> 16, Table.YS[pass], "ys", pass);
            Check.due((nextColumn & 65535) - (first & 65535), Table.DX[pass], "dx", pass);
            Check.due((nextRow >> 16) - (first >> 16), Table.DY[pass], "dy", pass);
        }
    }

    private static void noCallChangesLaterAnswers() {
        Check.sentence("1: no call to any method of the object changes what it answers later; 2, 3, 4: nothing changes");
        for (int[] earlier : CALLS) {
            for (int[] later : CALLS) {
                Adam7 adam7 = new Adam7();
                due(adam7, later);
                due(adam7, earlier);
                due(adam7, later);
            }
        }
    }

    private static void sameAnswerEveryTime() {
        Check.sentence("1: every method answers the same result for the same arguments, every time");
        Adam7 adam7 = new Adam7();
        for (int times = 0; times < 20000; times++) {
            for (int[] call : CALLS) {
                due(adam7, call);
            }
        }
    }

    private static void sameAnswerOnEveryObject() {
        Check.sentence("1: every method answers the same result on every object of the class");
        Adam7 old = new Adam7();
        Adam7 used = new Adam7();
        for (int[] call : CALLS) {
            due(used, call);
        }
        for (int[] call : CALLS) {
            due(old, call);
            due(new Adam7(), call);
        }
        for (int method = PASS_OF; method <= PLACE; method++) {
            for (int a : Table.EDGES) {
                for (int b : Table.EDGES) {
                    int want = answer(used, method, a, b, a);
                    Check.due(answer(old, method, a, b, a), want, METHODS[method], a, b, a);
                    Check.due(answer(new Adam7(), method, a, b, a), want, METHODS[method], a, b, a);
                }
            }
        }
    }

    private static void noMethodThrows() {
        Check.sentence("1: no method throws an exception for any argument values");
        Adam7 adam7 = new Adam7();
        for (int a : Table.EDGES) {
            for (int b : Table.EDGES) {
                doesNotThrow(adam7, PASS_OF, a, b, 0);
                doesNotThrow(adam7, WIDTH_IN, a, b, 0);
                for (int c : Table.EDGES) {
                    doesNotThrow(adam7, PLACE, a, b, c);
                }
            }
        }
    }

    private static void doesNotThrow(Adam7 adam7, int method, int a, int b, int c) {
        try {
            answer(adam7, method, a, b, c);
        } catch (Throwable thrown) {
            Check.holds(false, METHODS[method] + " threw " + thrown + ": ", a, b, c);
        }
    }
}
