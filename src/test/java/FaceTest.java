import java.io.IOException;
import java.lang.reflect.Constructor;
import java.lang.reflect.Field;
import java.lang.reflect.Method;
import java.lang.reflect.Modifier;
import java.nio.file.Files;
import java.nio.file.Path;
import java.util.ArrayList;
import java.util.Arrays;
import java.util.HashSet;
import java.util.List;
import java.util.Set;
import java.util.regex.Matcher;
import java.util.regex.Pattern;

/** The public face is the document's and no more, and the source keeps to what LANGUAGE.md lets one see by its words. */
public final class FaceTest {
    private static final String[] FACE = {
        "int stand(int, int, int, int)", "int leave(int)", "int set(int, int)", "int village(int, int, int)",
        "int raze(int)", "int say(int)", "int wipe()", "int fault()", "int judge(int)", "int behind(int, int)",
        "int side(int, int)", "int south(int)", "int lies(int)", "int done()", "int sway(int, int, int, int)",
        "int fair(int)", "int cedes(int)", "int orders(int)", "int seen(int, int, int)", "int forget()",
        "int moved(int)", "int ask(int)", "int crowns(int)", "long goat(int, int, int, int, int)",
        "int year(int, int, int)", "int image(int)", "int restore(int)", "int told(int)"};
    private static final Set<String> CONSTANTS =
        Set.of("UNKNOWN", "OUTSIDE", "STATE", "FULL", "NO", "NONE", "GONE");

    public static void main(String[] args) throws IOException {
        members();
        constants();
        inside();
        words();
        Check.end("FaceTest");
    }

    private static String faceOf(Method method) {
        List<String> types = new ArrayList<>();
        for (Class<?> type : method.getParameterTypes()) {
            types.add(type.getName());
        }
        return method.getReturnType().getName() + " " + method.getName() + "(" + String.join(", ", types) + ")";
    }

    private static void members() {
        Class<?> type = StandingLine.class;
        Check.holds("public and final", Modifier.isPublic(type.getModifiers()) && Modifier.isFinal(type.getModifiers()));
        Set<String> open = new HashSet<>();
        for (Method method : type.getDeclaredMethods()) {
            if (!Modifier.isPrivate(method.getModifiers())) {
                open.add(faceOf(method));
                Check.holds("public: " + method, Modifier.isPublic(method.getModifiers()));
                Check.holds("not static: " + method, !Modifier.isStatic(method.getModifiers()));
            }
        }
        Check.holds("the methods of the face: " + open, open.equals(new HashSet<>(Arrays.asList(FACE))));
        Constructor<?>[] constructors = type.getDeclaredConstructors();
        Check.holds("one public constructor",
            constructors.length == 1 && Modifier.isPublic(constructors[0].getModifiers()));
    }

    private static void constants() {
        Set<String> open = new HashSet<>();
        for (Field field : StandingLine.class.getDeclaredFields()) {
            if (!Modifier.isPrivate(field.getModifiers())) {
                open.add(field.getName());
            }
        }
        Check.holds("the constants of the face: " + open, open.equals(CONSTANTS));
        Check.due("UNKNOWN", StandingLine.UNKNOWN, -1);
        Check.due("OUTSIDE", StandingLine.OUTSIDE, -2);
        Check.due("STATE", StandingLine.STATE, -3);
        Check.due("FULL", StandingLine.FULL, -4);
        Check.due("NO", StandingLine.NO, -5);
        Check.due("NONE", StandingLine.NONE, -6);
        Check.due("GONE", StandingLine.GONE, -1000000000000000000L);
    }

    private static void inside() {
        Set<String> publicNames = new HashSet<>();
        for (String method : FACE) {
            publicNames.add(method.substring(method.indexOf(' ') + 1, method.indexOf('(')));
        }
        Class<?>[] classes = StandingLine.class.getDeclaredClasses();
        Check.holds("at most eleven classes inside", classes.length <= 11);
        for (Class<?> type : classes) {
            Check.holds("static: " + type, Modifier.isStatic(type.getModifiers()));
            Check.holds("at most twenty fields: " + type, type.getDeclaredFields().length <= 20);
            staticsAreFinal(type);
            for (Method method : type.getDeclaredMethods()) {
                Check.holds("a name of its own: " + method, !publicNames.contains(method.getName()));
                Check.holds("at most seven parameters: " + method, method.getParameterCount() <= 7);
            }
        }
        staticsAreFinal(StandingLine.class);
    }

    private static void staticsAreFinal(Class<?> type) {
        for (Field field : type.getDeclaredFields()) {
            if (Modifier.isStatic(field.getModifiers())) {
                Check.holds("final: " + field, Modifier.isFinal(field.getModifiers()));
            }
        }
    }

    private static void words() throws IOException {
        String source = Files.readString(Path.of("src/main/java/StandingLine.java"));
        String code = source.replaceAll("(?s)/\\*.*?\\*/", " ").replaceAll("//[^\n]*", " ");
        Matcher found = Pattern.compile("\\b(throw|throws|try|catch|finally|synchronized|assert|import|package|"
            + "Exact|hashCode|toString|random|native|volatile|transient)\\b|->|::|Exact\\(|\\bObject\\b").matcher(code);
        while (found.find()) {
            Check.holds("not in the language: " + found.group(), false);
        }
        Check.holds("plain signs only", source.chars().allMatch(sign -> sign < 128));
    }
}
