import java.io.IOException;
import java.lang.reflect.Constructor;
import java.lang.reflect.Field;
import java.lang.reflect.InvocationTargetException;
import java.lang.reflect.Method;
import java.lang.reflect.Modifier;
import java.nio.file.Files;
import java.nio.file.Path;
import java.util.Arrays;
import java.util.NoSuchElementException;
import java.util.Random;
import java.util.TreeSet;

/** The public face is the document's and no more; no call throws anything but what the document names. */
public final class FaceTest {
    private static final String[] FACE = {
        "int feed(int,int,int,int,int)", "boolean end(int)", "int text()", "int fault()", "int now(int)",
        "int at(int)", "long having(int)", "int rectangles(int)", "int rectangle(int,int)", "int through(int)",
        "int worst()", "int may(int)", "long mend()", "int most(int,int)", "int crowded(int,int,int)",
        "int paired(int,int,int)", "int search(int)", "int found(int)", "int fill()", "int likes()", "int lay()",
        "int apart()", "int paint(int,int)", "boolean rows(int,int)", "boolean columns(int,int)",
        "int name(int,int)", "int turn()", "int drawn(int,int)", "int undo()", "boolean image(int)",
        "boolean restore(int)",
    };
    private static final int[] NUMBERS = {
        Integer.MIN_VALUE, Integer.MIN_VALUE + 1, -65, -1, 0, 1, 2, 3, 4, 5, 6, 7, 8, 9, 20, 31, 32, 60, 61, 63, 64,
        65, 99, 100, 400, 440, 441, 65536, 1 << 30, Integer.MAX_VALUE - 19, Integer.MAX_VALUE,
    };
    private static final String[] TEXTS = {
        "", "grid 1 1 1;", "grid 1 8 4;", "grid 8 1 2;row 2;", "grid 8 8 4;row 1 1 1 1 1 1 1 1;row 1 1 1 1 1 1 1 1;",
        "grid 4 4 2;row 1 2 1 2;row 2 1 2 1;", "grid 5 5 2;", "grid 2 2 1;row 1 1;row 1 1;",
    };

    private FaceTest() {
    }

    public static void main(String[] args) throws IOException, IllegalAccessException {
        Check.due("the face", signatures().equals(new TreeSet<>(Arrays.asList(FACE))), true);
        dueMembers();
        dueThrows();
        dueSource();
        for (int run = 0; run < 40; run++) {
            for (String text : TEXTS) {
                callAnything(Check.with(text), new Random(run));
            }
        }
        Check.finish();
    }

    private static TreeSet<String> signatures() {
        TreeSet<String> all = new TreeSet<>();
        for (Method method : GridColours.class.getDeclaredMethods()) {
            if (Modifier.isPublic(method.getModifiers())) {
                StringBuilder types = new StringBuilder();
                for (Class<?> type : method.getParameterTypes()) {
                    types.append(types.length() == 0 ? "" : ",").append(type.getName());
                }
                all.add(method.getReturnType().getName() + " " + method.getName() + "(" + types + ")");
            }
        }
        return all;
    }

    private static void dueMembers() {
        Check.due("final", Modifier.isFinal(GridColours.class.getModifiers()), true);
        TreeSet<String> face = new TreeSet<>();
        for (Method method : GridColours.class.getDeclaredMethods()) {
            int flags = method.getModifiers();
            Check.due(method + " is public or private", Modifier.isPublic(flags) || Modifier.isPrivate(flags), true);
            if (Modifier.isPublic(flags)) {
                face.add(method.getName());
            }
        }
        for (Method method : GridColours.class.getDeclaredMethods()) {
            boolean isPrivate = Modifier.isPrivate(method.getModifiers());
            Check.due(method + " has a name of its own", isPrivate && face.contains(method.getName()), false);
        }
        for (Field field : GridColours.class.getDeclaredFields()) {
            boolean isPrivate = Modifier.isPrivate(field.getModifiers());
            Check.due(field + " is private", isPrivate, !field.getName().equals("NONE"));
        }
        for (Constructor<?> constructor : GridColours.class.getDeclaredConstructors()) {
            Check.due("constructor", constructor.getParameterCount(), 0);
            Check.due("constructor is public", Modifier.isPublic(constructor.getModifiers()), true);
        }
        for (Class<?> inside : GridColours.class.getDeclaredClasses()) {
            Check.due(inside + " is static", Modifier.isStatic(inside.getModifiers()), true);
        }
    }

    private static void dueThrows() {
        for (Method method : GridColours.class.getDeclaredMethods()) {
            boolean isTold = method.getName().equals("having") || method.getName().equals("mend");
            boolean isDeclared = Arrays.asList(method.getExceptionTypes()).contains(NoSuchElementException.class);
            Check.due(method + " throws", isDeclared, isTold);
        }
    }

    /** What LANGUAGE.md rules out and a look at the words shows. */
    private static void dueSource() throws IOException {
        String source = Files.readString(Path.of("src/main/java/GridColours.java"));
        String code = source.replaceAll("(?s)/\\*.*?\\*/", "").replaceAll("//[^\n]*", "");
        String[] ruledOut = {
            "->", "::", "\\bcatch\\b", "\\bfinally\\b", "\\btry\\b", "\\bassert\\b", "\\bsynchronized\\b",
            "\\bstatic \\{", "\\bpackage\\b", "Exact\\(", "\\bSystem\\b", "\\bRandom\\b", "\\bThread\\b",
        };
        for (String words : ruledOut) {
            Check.due("no " + words, java.util.regex.Pattern.compile(words).matcher(code).find(), false);
        }
        Check.due("one import", code.split("\\bimport\\b").length - 1, 1);
    }

    private static void callAnything(GridColours x, Random random) throws IllegalAccessException {
        Method[] methods = GridColours.class.getDeclaredMethods();
        for (int call = 0; call < 500; call++) {
            Method method = methods[random.nextInt(methods.length)];
            if (!Modifier.isPublic(method.getModifiers())) {
                continue;
            }
            Object[] numbers = new Object[method.getParameterCount()];
            for (int i = 0; i < numbers.length; i++) {
                numbers[i] = NUMBERS[random.nextInt(NUMBERS.length)];
            }
            try {
                method.invoke(x, numbers);
                Check.due(method.getName(), 0, 0);
            } catch (InvocationTargetException e) {
                boolean isTold = method.getExceptionTypes().length == 1
                    && e.getCause().getClass() == NoSuchElementException.class;
                Check.due(method.getName() + Arrays.toString(numbers) + " throws " + e.getCause(), isTold, true);
            }
        }
    }
}
