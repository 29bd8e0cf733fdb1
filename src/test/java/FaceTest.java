import java.io.IOException;
import java.lang.reflect.Constructor;
import java.lang.reflect.Field;
import java.lang.reflect.Method;
import java.lang.reflect.Modifier;
import java.nio.file.Files;
import java.nio.file.Path;
import java.util.Arrays;
import java.util.Set;
import java.util.TreeSet;
import java.util.regex.Matcher;
import java.util.regex.Pattern;

/** The public face of the document and no other, and those rules of LANGUAGE.md that can be seen from outside. */
public final class FaceTest {
    private static final Check CHECK = new Check();
    private static final Path SOURCE = Path.of("src/main/java/HandleLoans.java");

    private static final String FACE = "int handle(int,int,int) int of(int,int) int set(int,int,int) int turn(int,int) "
        + "int as(int,int) int leads(int,int) int pair(int,int) int member(int) int about(int,int) "
        + "int place(int,int,int) int loan(int) int lend(int,int) int back(int) int use(int,int) int days(int) "
        + "int now(int) int on(int,int,int) int late(int) int reach(int) int way(int,int) int next(int,int) "
        + "int wanted(int,int) int two(int,int) int meet(int,int) int kind(int,int) int least(int,int) "
        + "int uses(int,int) int feed(int,int) int wipe() int house() int sheet(int,int,int) "
        + "long write(int,int,long) int copy(int,int,int,int,int) int lays(int) int book(int,int) int read(int,int) "
        + "int image() int undo() int tear() int count(int) int status(int)";

    public static void main(String[] args) throws IOException {
        face();
        others();
        inside();
        words();
        CHECK.end();
    }

    private static void face() {
        Set<String> want = new TreeSet<>(Arrays.asList(FACE.split("(?<=\\)) ")));
        Set<String> got = new TreeSet<>();
        for (Method m : HandleLoans.class.getDeclaredMethods()) {
            if (Modifier.isPublic(m.getModifiers())) {
                String types = Arrays.toString(m.getParameterTypes()).replaceAll("[\\[\\] ]", "");
                got.add(m.getReturnType() + " " + m.getName() + "(" + types + ")");
            }
        }
        CHECK.due("methods of the face", want.size(), 41);
        CHECK.holds("the face is " + got, got.equals(want));
        CHECK.holds("the class is public and final",
            HandleLoans.class.getModifiers() == (Modifier.PUBLIC | Modifier.FINAL));
        Constructor<?>[] made = HandleLoans.class.getDeclaredConstructors();
        CHECK.holds("one public constructor without arguments",
            made.length == 1 && Modifier.isPublic(made[0].getModifiers()) && made[0].getParameterCount() == 0);
    }

    private static void others() {
        Set<String> publicNames = new TreeSet<>();
        for (Method m : HandleLoans.class.getDeclaredMethods()) {
            if (Modifier.isPublic(m.getModifiers())) {
                publicNames.add(m.getName());
            }
        }
        for (Method m : HandleLoans.class.getDeclaredMethods()) {
            if (!Modifier.isPublic(m.getModifiers())) {
                CHECK.holds(m + " is private", Modifier.isPrivate(m.getModifiers()));
                CHECK.holds(m + " bears a name of its own", !publicNames.contains(m.getName()));
            }
        }
        for (Field f : HandleLoans.class.getDeclaredFields()) {
            CHECK.holds(f + " is private", Modifier.isPrivate(f.getModifiers()));
            CHECK.holds(f + " is final if it is static",
                !Modifier.isStatic(f.getModifiers()) || Modifier.isFinal(f.getModifiers()));
        }
        for (Class<?> c : HandleLoans.class.getDeclaredClasses()) {
            for (Method m : c.getDeclaredMethods()) {
                CHECK.holds(m + " bears a name of its own", !publicNames.contains(m.getName()));
            }
        }
    }

    private static void inside() {
        Class<?>[] classes = HandleLoans.class.getDeclaredClasses();
        CHECK.holds("at most twelve classes", classes.length < 12);
        for (Class<?> c : classes) {
            CHECK.holds(c + " is private and static",
                Modifier.isPrivate(c.getModifiers()) && Modifier.isStatic(c.getModifiers()));
            long fields = Arrays.stream(c.getDeclaredFields()).filter(f -> !Modifier.isStatic(f.getModifiers())).count();
            CHECK.holds(c + " has at most twenty fields", fields <= 20);
        }
    }

    private static void words() throws IOException {
        String source = Files.readString(SOURCE).replaceAll("(?s)/\\*.*?\\*/", "").replaceAll("//[^\n]*", "");
        Matcher wrong = Pattern.compile("\\b(throw|try|catch|synchronized|assert|import|package|Exact|native)\\b|->|::")
            .matcher(source);
        while (wrong.find()) {
            CHECK.holds("no " + wrong.group(), false);
        }
    }
}
