import java.io.IOException;
import java.lang.reflect.Constructor;
import java.lang.reflect.Field;
import java.lang.reflect.Method;
import java.lang.reflect.Modifier;
import java.nio.file.Files;
import java.nio.file.Path;
import java.util.ArrayList;
import java.util.Arrays;
import java.util.List;
import java.util.regex.Matcher;
import java.util.regex.Pattern;
import java.util.stream.Stream;

/** The public face is the document's and nothing else, and the file keeps to what LANGUAGE.md can be searched for. */
public final class FaceTest {
    private static final String[] FACE = {
        "int setFloor(int) IllegalArgumentException",
        "int speak(int,int,int) IllegalArgumentException IllegalStateException",
        "int rest(int) IllegalArgumentException IllegalStateException",
        "int addInterpreter(int,int) IllegalArgumentException IllegalStateException",
        "int addBooth(int,int,int) IllegalArgumentException IllegalStateException",
        "int tune(int,int) IndexOutOfBoundsException IllegalArgumentException",
        "int sit(int,int) IndexOutOfBoundsException",
        "int swap(int,int) IndexOutOfBoundsException IllegalArgumentException",
        "int booth(int,int) IndexOutOfBoundsException",
        "int interpreter(int,int) IndexOutOfBoundsException",
        "int pass(int) IllegalArgumentException IllegalStateException",
        "int said(int,int,boolean) IndexOutOfBoundsException",
        "int count(int) IndexOutOfBoundsException",
        "int foresee(int,int,int) IndexOutOfBoundsException IllegalArgumentException IllegalStateException",
        "int advise(int,int) IndexOutOfBoundsException IllegalArgumentException IllegalStateException",
        "double through()",
        "long digest()",
    };
    private static final String[] RULED_OUT = {"import ", "package ", "->", "::", "try {", "catch (", "synchronized",
        "assert", "instanceof", "while (true)", "for (;;)", "Exact(", "System.out", "static {"};
    private static final List<String> LIBRARY = List.of("Math.floorMod", "Math.max", "Math.min", "Long.bitCount",
        "System.arraycopy");
    private static int wrong = 0;

    private static void due(String what, boolean holds) {
        if (!holds) {
            wrong++;
            System.out.println("FaceTest: " + what);
        }
    }

    private static String describe(Method m) {
        StringBuilder text = new StringBuilder(m.getReturnType().getSimpleName()).append(' ').append(m.getName());
        String separator = "(";
        for (Class<?> type : m.getParameterTypes()) {
            text.append(separator).append(type.getSimpleName());
            separator = ",";
        }
        text.append(m.getParameterCount() == 0 ? "()" : ")");
        for (Class<?> type : m.getExceptionTypes()) {
            text.append(' ').append(type.getSimpleName());
        }
        return text.toString();
    }

    private static void methods() {
        List<String> open = new ArrayList<>();
        List<String> openNames = new ArrayList<>();
        for (Method m : RelayBooths.class.getDeclaredMethods()) {
            if (!Modifier.isPrivate(m.getModifiers())) {
                open.add(describe(m));
                openNames.add(m.getName());
                due(m.getName() + " is public and no more", m.getModifiers() == Modifier.PUBLIC);
            }
        }
        for (Method m : RelayBooths.class.getDeclaredMethods()) {
            due(m + " bears the name of a public one",
                !Modifier.isPrivate(m.getModifiers()) || !openNames.contains(m.getName()));
        }
        List<String> due = Arrays.asList(FACE);
        for (String line : due) {
            due("there is no " + line, open.contains(line));
        }
        for (String line : open) {
            due("the document does not know " + line, due.contains(line));
        }
    }

    private static void otherMembers() {
        Class<?> face = RelayBooths.class;
        due("the class is public and final", face.getModifiers() == (Modifier.PUBLIC | Modifier.FINAL));
        Constructor<?>[] constructors = face.getDeclaredConstructors();
        due("there is one public constructor without arguments", constructors.length == 1
            && constructors[0].getModifiers() == Modifier.PUBLIC && constructors[0].getParameterCount() == 0
            && constructors[0].getExceptionTypes().length == 0);
        for (Field f : face.getDeclaredFields()) {
            due(f + " is private and final", Modifier.isPrivate(f.getModifiers()) && Modifier.isFinal(f.getModifiers()));
        }
        Class<?>[] inside = face.getDeclaredClasses();
        due("there are at most twelve classes", inside.length < 12);
        for (Class<?> c : inside) {
            due(c + " is private and static", Modifier.isPrivate(c.getModifiers()) && Modifier.isStatic(c.getModifiers()));
            due(c + " has at most twenty fields", c.getDeclaredFields().length <= 20);
        }
    }

    private static void source() throws IOException {
        String text = Files.readString(Path.of("src/main/java/RelayBooths.java"));
        for (String out : RULED_OUT) {
            due("the file holds \"" + out + "\"", !text.contains(out));
        }
        for (int i = 0; i < text.length(); i++) {
            due("the sign at " + i + " is beyond 127", text.charAt(i) < 128);
        }
        Matcher called = Pattern.compile("\\b(Math|Integer|Long|System|Arrays|String|List)\\.(\\w+)").matcher(text);
        while (called.find()) {
            due("the library's " + called.group() + " is called", LIBRARY.contains(called.group()));
        }
        Matcher thrown = Pattern.compile("throw ([^;]*);").matcher(text);
        while (thrown.find()) {
            due("it says throw " + thrown.group(1), thrown.group(1).matches(
                "new (IllegalState|IllegalArgument|IndexOutOfBounds)Exception\\(\"[a-z ]*\"\\)"));
        }
        try (Stream<Path> files = Files.walk(Path.of("src"))) {
            due("there is one file under src", files.filter(Files::isRegularFile).count() == 1);
        }
    }

    public static void main(String[] args) throws IOException {
        methods();
        otherMembers();
        source();
        System.out.println(wrong == 0 ? "FaceTest: the face is as due" : "FaceTest: " + wrong + " wrong");
        if (wrong != 0) {
            System.exit(1);
        }
    }
}
