import java.lang.reflect.Constructor;
import java.lang.reflect.Field;
import java.lang.reflect.Method;
import java.lang.reflect.Modifier;
import java.util.Set;
import java.util.TreeSet;

/** The public face is the document's and no more, and no argument in any state makes a call throw. */
public final class FaceTest {
    private static final int[] EDGES = {Integer.MIN_VALUE, Integer.MIN_VALUE + 1, -1025, -1024, -2, -1, 0, 1, 2, 9, 31,
        32, 33, 39, 40, 79, 80, 1023, 1024, 1025, Integer.MAX_VALUE - 1, Integer.MAX_VALUE};

    public static void main(String[] args) {
        members();
        classesInside();
        noNameTwice();
        noCallThrows();
        callsBehindTheLastOne();
        theConstant();
        Due.finish();
    }

    private static void theConstant() {
        Due.says("The constants: `NONE = -1`: Nothing there, or the power is off.");
        Due.is("NONE", BlockVault.NONE, -1);
        BlockVault x = new BlockVault(80);
        Due.is("get of no block", x.get(80, 0), -1);
        Due.is("end of no step", x.end(), -1);
        Due.is("power that was on", x.power(-1), -1);
        Due.is("count of no step", x.count(3), -1);
        Due.is("count of another what", x.count(7), -1);
        BlockVault off = State.WENT_BEHIND_THAT.make();
        Due.is("get, off", off.get(0, 0), -1);
        Due.is("end, off", off.end(), -1);
        Due.is("flush, off", off.flush(), -1);
        Due.is("count of no step, off", off.count(3), -1);
        Due.is("power that goes again", off.power(0), -1);
    }

    private static void members() {
        Set<String> due = new TreeSet<>(Set.of("public boolean begin()", "public int end()", "public int flush()",
            "public int get(int,int)", "public boolean fill(int,int,int,int)", "public boolean cut(int)",
            "public int power(int)", "public int count(int)", "public boolean held(int)",
            "public boolean cached(int)", "public static final int NONE", "public BlockVault(int)"));
        Set<String> got = new TreeSet<>();
        for (Method m : BlockVault.class.getDeclaredMethods()) {
            note(got, m.getModifiers(), m.toString());
        }
        for (Field f : BlockVault.class.getDeclaredFields()) {
            note(got, f.getModifiers(), f.toString());
        }
        for (Constructor<?> c : BlockVault.class.getDeclaredConstructors()) {
            note(got, c.getModifiers(), c.toString());
        }
        if (!got.equals(due)) {
            System.out.println("the face is " + got);
        }
        Due.yes("the face is the document's", got.equals(due));
        int kind = BlockVault.class.getModifiers();
        Due.yes("public and final", Modifier.isPublic(kind) && Modifier.isFinal(kind));
    }

    private static void note(Set<String> got, int modifiers, String text) {
        if (!Modifier.isPrivate(modifiers)) {
            got.add(text.replace("BlockVault.", ""));
        }
    }

    /** LANGUAGE.md's rule 1: private or package-visible, and static. */
    private static void classesInside() {
        for (Class<?> inside : BlockVault.class.getDeclaredClasses()) {
            int kind = inside.getModifiers();
            Due.yes(inside + " is static", Modifier.isStatic(kind));
            Due.no(inside + " is public or protected", Modifier.isPublic(kind) || Modifier.isProtected(kind));
        }
    }

    /** LANGUAGE.md's rule 1: no other method bears the name of a public one. */
    private static void noNameTwice() {
        Set<String> names = new TreeSet<>();
        for (Method m : BlockVault.class.getDeclaredMethods()) {
            Due.yes("one method alone is named " + m.getName(), names.add(m.getName()));
        }
        for (Class<?> inside : BlockVault.class.getDeclaredClasses()) {
            for (Method m : inside.getDeclaredMethods()) {
                Due.no(inside + " has a method named as one of the face: " + m.getName(), isOfTheFace(m.getName()));
            }
        }
    }

    private static boolean isOfTheFace(String name) {
        for (Method m : BlockVault.class.getMethods()) {
            if (m.getDeclaringClass() == BlockVault.class && m.getName().equals(name)) {
                return true;
            }
        }
        return false;
    }

    private static void noCallThrows() {
        for (int state = 0; state < 5; state++) {
            for (int a : EDGES) {
                tryOne(inState(state), a);
                for (int b : EDGES) {
                    inState(state).get(a, b);
                    for (int c : EDGES) {
                        inState(state).fill(a, b, c, a);
                    }
                }
            }
        }
        Due.yes("no call threw", true);
    }

    private static void tryOne(BlockVault x, int a) {
        x.held(a);
        x.cached(a);
        x.count(a);
        x.cut(a);
        x.end();
        x.flush();
        x.power(a);
        x.begin();
        new BlockVault(a).flush();
    }

    /** New, in a step, with a commit done, off, off with a commit to bring home. */
    private static BlockVault inState(int state) {
        BlockVault x = new BlockVault(80);
        if (state == 1) {
            x.begin();
        }
        if (state >= 2) {
            x.begin();
            x.fill(40, 0, 1, 1);
            x.end();
            x.cut(state == 2 ? -1 : state == 3 ? 0 : 2);
            x.flush();
        }
        return x;
    }

    /** LANGUAGE.md's rule 7 asks of them that they do not throw, and the document nothing. */
    private static void callsBehindTheLastOne() {
        Due.says("what later calls answer is free.");
        BlockVault x = new BlockVault(80);
        for (int i = 0; i < 20000; i++) {
            x.begin();
            x.fill(Due.block(i % Due.USABLE), i % 1024, 1, i);
            x.cut(i % 97);
            x.end();
            x.power(-1);
        }
        Due.yes("no late call threw", true);
    }
}
