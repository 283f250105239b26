import java.io.IOException;
import java.lang.reflect.Constructor;
import java.lang.reflect.Field;
import java.lang.reflect.Method;
import java.lang.reflect.Modifier;
import java.nio.file.Files;
import java.nio.file.Path;
import java.util.ArrayList;
import java.util.Arrays;
import java.util.List;
import java.util.TreeSet;
import java.util.regex.Matcher;
import java.util.regex.Pattern;

/** The face of the document, and those rules of LANGUAGE.md that can be seen in the text or the compiled class. */
public final class LanguageTest {
    private static final Check check = new Check();

    private static final String[] FACE = {
        "int add(int,long)", "int begin(int)", "int ceiling(int)", "int cheapest(int,int)", "int collect(long,int)",
        "int count(int,int)", "int done(int)", "int fault()", "int forget()", "int join(int,int,int,int)",
        "int load(int)", "int meet(int,int)", "int next(int)", "int number(int)", "int packed(int)", "int prefix(int)",
        "int row(int)", "int sign(int)", "int state(int)", "int term(int,int,int)", "int walk(int,int,boolean)",
        "long arc(int,int,int,int)", "long find(int)", "long out(int,int)",
    };
    private static final String[] CONSTANTS = {"NONE", "BAD", "FULL", "OPEN", "ORDER", "LONG", "SHAPE"};
    private static final String[] FORBIDDEN = {
        "\\bthrow\\b", "\\bthrows\\b", "\\btry\\b", "\\bcatch\\b", "\\bfinally\\b", "\\bsynchronized\\b", "\\bassert\\b",
        "\\bpackage\\b", "->", "::", "Exact\\b", "\\bprotected\\b", "\\bvolatile\\b", "\\btransient\\b", "\\bnative\\b",
        "\\bhashCode\\b", "\\btoString\\b", "\\bequals\\b", "\\bObject\\b", "\\bThread\\b", "\\bRandom\\b", "@",
        "static\\s*\\{", "\\bjava\\.(?!util\\.(Arrays|List|ArrayList|Iterator);)", "\\bdouble\\b", "\\bfloat\\b", "\"",
    };

    public static void main(String[] args) throws IOException {
        face();
        members();
        text();
        check.end("LanguageTest");
    }

    private static void face() {
        Class<?> type = TermMachine.class;
        check.due("the class is public and final", type.getModifiers(), Modifier.PUBLIC | Modifier.FINAL);
        TreeSet<String> open = new TreeSet<>();
        TreeSet<String> names = new TreeSet<>();
        for (Method method : type.getDeclaredMethods()) {
            if (Modifier.isPrivate(method.getModifiers()) || method.isSynthetic()) {
                continue;
            }
            open.add(tell(method));
            names.add(method.getName());
            check.due(method + " is public", method.getModifiers(), Modifier.PUBLIC);
        }
        check.due("the face is " + open, open.equals(new TreeSet<>(Arrays.asList(FACE))) ? 1 : 0, 1);
        TreeSet<String> constants = new TreeSet<>();
        for (Field field : type.getDeclaredFields()) {
            if (!Modifier.isPrivate(field.getModifiers())) {
                constants.add(field.getName());
            }
        }
        check.due("the constants are " + constants, constants.equals(new TreeSet<>(Arrays.asList(CONSTANTS))) ? 1 : 0, 1);
        Constructor<?>[] constructors = type.getDeclaredConstructors();
        check.due("one constructor", constructors.length, 1);
        check.due("it is public", constructors[0].getModifiers(), Modifier.PUBLIC);
        for (Class<?> part : parts()) {
            for (Method method : part.getDeclaredMethods()) {
                boolean borrowed = names.contains(method.getName()) && !(part == type && Modifier.isPublic(method.getModifiers()));
                check.due(method + " bears a name of the face", borrowed ? 1 : 0, 0);
            }
        }
    }

    private static String tell(Method method) {
        StringBuilder text = new StringBuilder(method.getReturnType() + " " + method.getName() + "(");
        for (Class<?> type : method.getParameterTypes()) {
            text.append(text.charAt(text.length() - 1) == '(' ? "" : ",").append(type);
        }
        return text + ")";
    }

    private static List<Class<?>> parts() {
        List<Class<?>> all = new ArrayList<>();
        all.add(TermMachine.class);
        all.addAll(Arrays.asList(TermMachine.class.getDeclaredClasses()));
        return all;
    }

    private static void members() {
        List<Class<?>> parts = parts();
        check.due("at most twelve classes", parts.size() <= 12 ? 1 : 0, 1);
        for (Class<?> part : parts) {
            if (part != TermMachine.class) {
                check.due(part + " is static", Modifier.isStatic(part.getModifiers()) ? 1 : 0, 1);
                check.due(part + " is not public", Modifier.isPublic(part.getModifiers()) ? 1 : 0, 0);
            }
            int fields = 0;
            for (Field field : part.getDeclaredFields()) {
                boolean fixed = Modifier.isStatic(field.getModifiers());
                check.due(field + " is final if static", fixed && !Modifier.isFinal(field.getModifiers()) ? 1 : 0, 0);
                fields += fixed ? 0 : 1;
            }
            check.due(part + " has at most twenty fields", fields <= 20 ? 1 : 0, 1);
            for (Method method : part.getDeclaredMethods()) {
                check.due(method + " takes at most seven", method.getParameterCount() <= 7 ? 1 : 0, 1);
            }
        }
    }

    private static void text() throws IOException {
        String text = Files.readString(Path.of("src/main/java/TermMachine.java"));
        String bare = text.replaceAll("(?s)/\\*.*?\\*/", "").replaceAll("//[^\n]*", "");
        for (String word : FORBIDDEN) {
            Matcher matcher = Pattern.compile(word).matcher(bare);
            check.due("the text has " + word, matcher.find() ? 1 : 0, 0);
        }
        int since = 0;
        for (String line : text.split("\n")) {
            since = line.isBlank() ? 0 : since + 1;
            check.due("a block of over sixty lines at " + line, since <= 60 ? 1 : 0, 1);
        }
    }
}
