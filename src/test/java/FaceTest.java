import java.lang.reflect.Constructor;
import java.lang.reflect.Field;
import java.lang.reflect.Method;
import java.lang.reflect.Modifier;
import java.util.Arrays;
import java.util.Set;
import java.util.TreeSet;

/** The public face of the document and no other; LanguageTest looks at what stands inside. */
public final class FaceTest {
    private static final Check CHECK = new Check();

    private static final String FACE = "int handle(int,int,int) int of(int,int) int set(int,int,int) int turn(int,int) "
        + "int as(int,int) int leads(int,int) int pair(int,int) int member(int) int about(int,int) "
        + "int place(int,int,int) int loan(int) int lend(int,int) int back(int) int use(int,int) int days(int) "
        + "int now(int) int on(int,int,int) int late(int) int reach(int) int way(int,int) int next(int,int) "
        + "int wanted(int,int) int two(int,int) int meet(int,int) int kind(int,int) int least(int,int) "
        + "int uses(int,int) int feed(int,int) int wipe() int house() int sheet(int,int,int) "
        + "long write(int,int,long) int copy(int,int,int,int,int) int lays(int) int book(int,int) int read(int,int) "
        + "int image() int undo() int tear() int count(int) int status(int)";

    public static void main(String[] args) {
        face();
        others();
        CHECK.end();
    }

    private static void face() {
        Set<String> want = new TreeSet<>(Arrays.asList(FACE.split("(?<=\\)) ")));
        Set<String> got = new TreeSet<>();
        for (Method m : HandleLoans.class.getDeclaredMethods()) {
            if (Modifier.isPublic(m.getModifiers())) {
                String types = Arrays.toString(m.getParameterTypes()).replaceAll("[\\[\\] ]", "");
                got.add(m.getReturnType() + " " + m.getName() + "(" + types + ")");
            }
        }
        CHECK.due("methods of the face", want.size(), 41);
        CHECK.holds("the face is " + got, got.equals(want));
        CHECK.holds("the class is public and final",
            HandleLoans.class.getModifiers() == (Modifier.PUBLIC | Modifier.FINAL));
        Constructor<?>[] made = HandleLoans.class.getDeclaredConstructors();
        CHECK.holds("one public constructor without arguments",
            made.length == 1 && Modifier.isPublic(made[0].getModifiers()) && made[0].getParameterCount() == 0);
    }

    private static void others() {
        Set<String> publicNames = new TreeSet<>();
        for (Method m : HandleLoans.class.getDeclaredMethods()) {
            if (Modifier.isPublic(m.getModifiers())) {
                publicNames.add(m.getName());
            }
        }
        for (Method m : HandleLoans.class.getDeclaredMethods()) {
            if (!Modifier.isPublic(m.getModifiers())) {
                CHECK.holds(m + " is private", Modifier.isPrivate(m.getModifiers()));
                CHECK.holds(m + " bears a name of its own", !publicNames.contains(m.getName()));
            }
        }
        for (Field f : HandleLoans.class.getDeclaredFields()) {
            CHECK.holds(f + " is private", Modifier.isPrivate(f.getModifiers()));
            CHECK.holds(f + " is final if it is static",
                !Modifier.isStatic(f.getModifiers()) || Modifier.isFinal(f.getModifiers()));
        }
        for (Class<?> c : HandleLoans.class.getDeclaredClasses()) {
            for (Method m : c.getDeclaredMethods()) {
                CHECK.holds(m + " bears a name of its own", !publicNames.contains(m.getName()));
            }
        }
    }
}
