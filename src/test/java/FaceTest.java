import java.io.IOException;
import java.lang.reflect.Field;
import java.lang.reflect.Method;
import java.lang.reflect.Modifier;
import java.nio.file.Files;
import java.nio.file.Path;
import java.util.Arrays;
import java.util.List;
import java.util.Set;
import java.util.TreeSet;
import java.util.regex.Matcher;
import java.util.regex.Pattern;

/** The public face that the document shows and no more, and what LANGUAGE.md rules out by a word. */
public final class FaceTest {
    private static final String SOURCE = "src/main/java/FellersOrder.java";
    private static final String[] FACE = {
        "job/2", "set/3", "lay/2", "free/2", "put/1", "clear/0", "told/2", "ahead/2", "count/1", "keeps/0",
        "why/1", "cost/0", "swap/1", "block/2", "least/0", "best/1", "many/0", "fixed/2", "series/0",
        "shows/1", "turned/0", "act/3", "trace/1", "sheet/3", "cell/3", "fromSheet/3", "forge/3", "undo/0",
        "status/0",
    };
    private static final String[] RULED_OUT = {
        "throw", "throws", "try", "catch", "synchronized", "assert", "import", "package", "protected",
        "System", "Thread", "Random", "hashCode", "toString", "static \\{",
    };

    private static final Set<Class<?>> CONSTANTS = Set.of(int.class, long.class, boolean.class, char.class,
            String.class, int[].class, long[].class, char[].class, byte[].class);
    private static final int MOST_LINES = 60;

    private static int wrong = 0;

    public static void main(String[] args) throws IOException {
        members();
        classesInside();
        words();
        lengths();
        System.out.println(wrong == 0 ? "the face is as due" : wrong + " faults of the face");
        if (wrong != 0) {
            System.exit(1);
        }
    }

    private static void check(boolean holds, String fault) {
        if (!holds) {
            wrong++;
            System.out.println(fault);
        }
    }

    private static void members() {
        Class<?> type = FellersOrder.class;
        check(Modifier.isPublic(type.getModifiers()) && Modifier.isFinal(type.getModifiers()), "not public and final");
        check(type.getDeclaredConstructors().length == 1 && type.getConstructors().length == 1
                && type.getConstructors()[0].getParameterCount() == 0, "not one public constructor");
        Set<String> publics = new TreeSet<>();
        Set<String> names = new TreeSet<>();
        for (Method method : type.getDeclaredMethods()) {
            if (Modifier.isPublic(method.getModifiers())) {
                publics.add(method.getName() + "/" + method.getParameterCount());
                names.add(method.getName());
                check(method.getReturnType() == int.class && !Modifier.isStatic(method.getModifiers()), method + "");
                for (Class<?> parameter : method.getParameterTypes()) {
                    check(parameter == int.class, method + " takes " + parameter);
                }
            }
        }
        check(publics.equals(new TreeSet<>(Arrays.asList(FACE))), "the public methods are " + publics);
        for (Method method : type.getDeclaredMethods()) {
            boolean open = Modifier.isPublic(method.getModifiers());
            check(open || Modifier.isPrivate(method.getModifiers()), method + " is neither public nor private");
            check(open || !names.contains(method.getName()), method + " bears a public method's name");
        }
        fields(type);
    }

    private static void fields(Class<?> type) {
        for (Field field : type.getDeclaredFields()) {
            boolean open = Modifier.isPublic(field.getModifiers());
            check(open == field.getName().equals("NONE"), field + " is not as visible as due");
            check(open || Modifier.isPrivate(field.getModifiers()), field + " is neither public nor private");
            check(!Modifier.isStatic(field.getModifiers()) || isConstant(field), field + " is no constant");
        }
    }

    private static boolean isConstant(Field field) {
        return Modifier.isFinal(field.getModifiers()) && CONSTANTS.contains(field.getType());
    }

    private static void classesInside() {
        Class<?>[] inside = FellersOrder.class.getDeclaredClasses();
        check(inside.length + 1 <= 12, "more than twelve classes");
        for (Class<?> type : inside) {
            check(Modifier.isStatic(type.getModifiers()), type + " is not static");
            check(!Modifier.isPublic(type.getModifiers()), type + " is public");
            int own = 0;
            for (Field field : type.getDeclaredFields()) {
                boolean constant = Modifier.isStatic(field.getModifiers());
                check(!constant || isConstant(field), field + " is no constant");
                own += constant ? 0 : 1;
            }
            check(own <= 20, type + " has " + own + " fields");
            for (Method method : type.getDeclaredMethods()) {
                check(method.getParameterCount() <= 7, method + " takes too many");
            }
        }
    }

    private static void words() throws IOException {
        String source = Files.readString(Path.of(SOURCE));
        String code = source.replaceAll("(?s)/\\*.*?\\*/", "").replaceAll("//[^\n]*", "");
        for (String word : RULED_OUT) {
            Matcher matcher = Pattern.compile("\\b" + word).matcher(code);
            check(!matcher.find(), SOURCE + " has " + word);
        }
        check(!code.contains("->") && !code.contains("::") && !code.contains("Exact"), SOURCE + " has ->, :: or Exact");
    }

    /** A method begins with a line that ends with ") {" and ends with the brace that stands as far in. */
    private static void lengths() throws IOException {
        List<String> lines = Files.readAllLines(Path.of(SOURCE));
        int methods = 0;
        for (int i = 0; i < lines.size(); i++) {
            Matcher begin = Pattern.compile("( {4}| {8})[a-zA-Z].*\\) \\{").matcher(lines.get(i));
            boolean inside = begin.matches() && !lines.get(i).matches(" *(if|for|while|switch|do|else)\\b.*");
            if (inside) {
                methods++;
                int length = lines.subList(i, lines.size()).indexOf(begin.group(1) + "}") + 1;
                check(length > 0 && length <= MOST_LINES, lines.get(i).trim() + " has " + length + " lines");
            }
        }
        check(methods > FACE.length, "only " + methods + " methods were found");
    }
}
