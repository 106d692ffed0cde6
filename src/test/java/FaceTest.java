import java.io.IOException;
import java.lang.reflect.Constructor;
import java.lang.reflect.Field;
import java.lang.reflect.Method;
import java.lang.reflect.Modifier;
import java.nio.file.Files;
import java.nio.file.Path;
import java.util.Arrays;
import java.util.Random;
import java.util.Set;
import java.util.TreeSet;
import java.util.regex.Matcher;
import java.util.regex.Pattern;

/** The document's face, some rules of LANGUAGE.md, and that no call throws for any arguments. */
public final class FaceTest {
    private static final Checks C = new Checks();
    private static final String[] FACE = {
        "int row(int,int,int)", "int set(int,int,long)", "int copy(int,int,int,int,int)",
        "long element(int,int)", "int show(int,int)", "int holds(int)", "int says(int,int)",
        "int fact(int)", "int speaker(int,int)", "int law(int,int)", "int speakerOf(int,int)",
        "int harm(int,int)", "int say(int,int,boolean)", "int unsay()", "int sayingOf(int)",
        "int known(int,boolean)", "int town(int)", "int fault()", "int canBe(int,int)",
        "int can(int,int,int)", "long worlds()", "int many()", "int sure(int)", "int sures()",
        "int shown(int)", "int proof(int)", "int worst(int,int)", "int next()", "int knows(int,int)",
        "int tree(int)", "int rows(int,int)", "int tells(int,int)", "int errands(int,int)",
        "int placed(int,int)", "int trust(int)", "int witness()", "int judge(int,int)",
        "int sunset()", "int draw()", "int ask(int,int)", "int truly(int)", "int seed(int)",
        "int act(int,int,int)", "int trace(int)", "int image()", "int restore()", "int status(int)"};
    private static final int[] ODD = {-1, 0, 1, 2, 3, 5, 6, 7, 8, 10, 23, 24, 25, 63, 64, 160, 161,
        1023, 1024, -2, Integer.MIN_VALUE, Integer.MAX_VALUE, 1 << 16, -(1 << 30)};

    public static void main(String[] args) throws IOException {
        face();
        source();
        nothingIsThrown();
        C.end();
    }

    private static void face() {
        C.about("face");
        Set<String> open = new TreeSet<>();
        Set<String> names = new TreeSet<>();
        for (Method m : HalfOfItFalse.class.getDeclaredMethods()) {
            if (!Modifier.isPrivate(m.getModifiers())) {
                String kinds = Arrays.toString(m.getParameterTypes()).replaceAll("[\\[\\] ]", "");
                open.add(m.getReturnType() + " " + m.getName() + "(" + kinds + ")");
                names.add(m.getName());
            }
        }
        C.due("methods", 1, open.equals(new TreeSet<>(Arrays.asList(FACE))) ? 1 : 0);
        for (Method m : HalfOfItFalse.class.getDeclaredMethods()) {
            if (Modifier.isPrivate(m.getModifiers())) {
                C.due("private " + m.getName(), 0, names.contains(m.getName()) ? 1 : 0);
            }
        }
        for (Field f : HalfOfItFalse.class.getDeclaredFields()) {
            boolean isNone = f.getName().equals("NONE");
            C.due("private field " + f.getName(), isNone ? 0 : 1,
                    Modifier.isPrivate(f.getModifiers()) ? 1 : 0);
            C.due("static is final: " + f.getName(), 0, Modifier.isStatic(f.getModifiers())
                    && !Modifier.isFinal(f.getModifiers()) ? 1 : 0);
        }
        int constructors = 0;
        for (Constructor<?> c : HalfOfItFalse.class.getDeclaredConstructors()) {
            constructors += Modifier.isPublic(c.getModifiers()) && c.getParameterCount() == 0 ? 1 : 2;
        }
        C.due("one constructor", 1, constructors);
        C.due("final", 1, Modifier.isFinal(HalfOfItFalse.class.getModifiers()) ? 1 : 0);
    }

    private static void source() throws IOException {
        C.about("LANGUAGE.md");
        String text = Files.readString(Path.of("src/main/java/HalfOfItFalse.java"));
        String code = text.replaceAll("(?s)/\\*.*?\\*/", "").replaceAll("//[^\n]*", "");
        Matcher no = Pattern.compile("\\b(import|throw|catch|finally|synchronized|assert|package"
                + "|protected|lambda|Exact)\\b|->|::").matcher(code);
        C.due("words that may not be", 0, no.find() ? 1 : 0);
        C.due("signs 1 to 127", 1, text.chars().allMatch(c -> c > 0 && c < 128) ? 1 : 0);
        int start = 0;
        int line = 0;
        for (String one : code.split("\n", -1)) {
            line++;
            if (one.matches("    (    )?(public|private|static|int|long|boolean|void)[^=;]*\\{")
                    && one.contains("(")) {
                start = line;
            }
            if (one.matches("    (    )?\\}")) {
                C.due("lines of the method that ends at " + line, 1, line - start < 61 ? 1 : 0);
            }
        }
    }

    private static void nothingIsThrown() {
        C.about("nothing is thrown");
        Method[] calls = HalfOfItFalse.class.getDeclaredMethods();
        Arrays.sort(calls, (a, b) -> a.getName().compareTo(b.getName()));
        Random dice = new Random(7);
        for (int run = 0; run < 300; run++) {
            HalfOfItFalse x = new HalfOfItFalse();
            for (int call = 0; call < 512; call++) {
                Method m = calls[dice.nextInt(calls.length)];
                if (Modifier.isPublic(m.getModifiers())) {
                    oddCall(x, m, dice);
                }
            }
        }
    }

    private static void oddCall(HalfOfItFalse x, Method m, Random dice) {
        Class<?>[] kinds = m.getParameterTypes();
        Object[] with = new Object[kinds.length];
        for (int i = 0; i < with.length; i++) {
            int v = dice.nextInt(3) == 0 ? ODD[dice.nextInt(ODD.length)] : dice.nextInt(5);
            with[i] = kinds[i] == boolean.class ? (Object) (v % 2 == 0)
                    : kinds[i] == long.class ? (Object) (long) v : (Object) v;
        }
        try {
            m.invoke(x, with);
        } catch (ReflectiveOperationException e) {
            C.due(m.getName() + Arrays.toString(with) + " " + e.getCause(), 0, 1);
        }
    }
}
