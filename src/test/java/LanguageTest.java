import java.io.IOException;
import java.lang.reflect.Constructor;
import java.lang.reflect.Field;
import java.lang.reflect.Method;
import java.lang.reflect.Modifier;
import java.nio.file.Files;
import java.nio.file.Path;
import java.util.List;
import java.util.Set;
import java.util.TreeSet;
import java.util.regex.Matcher;
import java.util.regex.Pattern;

/** The face of the document, and those rules of LANGUAGE.md that can be seen from outside or in the text. */
public final class LanguageTest {
    private static final Path SOURCE = Path.of("src/main/java/SaidInWinter.java");
    private static final String[] FACE = {
        "int lake(int)", "int freeze(int,int,int)", "int thaw(int)", "int cut(int,int)", "int drift()", "int winter()",
        "int layer(int,int,int)", "int cell(int,int)", "int holds(int)", "int latest(int)", "int seen(int,int)",
        "int holes(int,int)", "int lasts(int,int)", "int frost(int,int,int)", "int where(int,int)", "int thin(int)",
        "int spans(int,int)", "int disorder()", "int order(int)", "int joined(int,int)", "int seeded(int,int)",
        "int judge(int)", "int image()", "int restore()", "int count(int)", "int keep(int,int,int,int)",
        "int row(int,int,int)", "int put(int,int,int)", "long element(int,int)", "int copy(int,int,int,int,int)",
        "int toll(int)", "int toss(int)"
    };
    private static final String[] SECTIONS = {
        "lakes", "to read", "to last", "what is wrong, winters, orders", "seeds, told depths",
        "the image, what is told", "shelves"
    };
    /** Lambdas, method references and other things that the rules leave out; machine exceptions and those above them. */
    private static final String[] NOT_IN_THE_TEXT = {
        "->", "::", "\\bfinally\\b", "\\bsynchronized\\b", "\\bassert\\b", "\\bvar\\b", "@", "\\binstanceof\\b",
        "\\bprotected\\b", "\\bpackage\\b", "\\bvolatile\\b", "\\btransient\\b", "\\bnative\\b", "\\bSystem\\.(?!arraycopy)",
        "Exact\\(", "NullPointerException", "ClassCastException", "ArithmeticException", "IndexOutOfBounds",
        "NegativeArraySize", "ArrayStoreException", "\\bRuntimeException", "\\bException\\b", "\\bThrowable\\b",
        "\\bError\\b", "getMessage", "\\bhashCode\\b", "\\btoString\\b", "\\bequals\\b", "\\[\\]\\[\\]\\["
    };
    private static final Due due = new Due();

    public static void main(String[] args) throws IOException {
        face();
        members();
        String source = Files.readString(SOURCE);
        text(source);
        methodLengths(source);
        due.end();
    }

    private static String signature(Method method) {
        StringBuilder parameters = new StringBuilder();
        for (Class<?> type : method.getParameterTypes()) {
            parameters.append(parameters.length() == 0 ? "" : ",").append(type.getSimpleName());
        }
        return method.getReturnType().getSimpleName() + " " + method.getName() + "(" + parameters + ")";
    }

    private static void face() {
        Class<?> type = SaidInWinter.class;
        due.holds("public and final", Modifier.isPublic(type.getModifiers()) && Modifier.isFinal(type.getModifiers()));
        Set<String> found = new TreeSet<>();
        for (Method method : type.getDeclaredMethods()) {
            if (Modifier.isPublic(method.getModifiers())) {
                found.add(signature(method));
                List<Class<?>> thrown = List.of(method.getExceptionTypes());
                due.holds("exceptions of " + method.getName(), method.getName().equals("element")
                    ? thrown.equals(List.of(IllegalArgumentException.class, IllegalStateException.class))
                    : thrown.isEmpty());
            }
        }
        Set<String> wanted = new TreeSet<>(List.of(FACE));
        due.holds("the face is " + found + ", due is " + wanted, found.equals(wanted));
        Constructor<?>[] constructors = type.getDeclaredConstructors();
        due.holds("one constructor, public, without parameters", constructors.length == 1
            && Modifier.isPublic(constructors[0].getModifiers()) && constructors[0].getParameterCount() == 0);
    }

    private static void members() {
        Class<?> type = SaidInWinter.class;
        Set<String> publicNames = new TreeSet<>();
        for (Method method : type.getDeclaredMethods()) {
            if (Modifier.isPublic(method.getModifiers())) {
                publicNames.add(method.getName());
            }
        }
        for (Method method : type.getDeclaredMethods()) {
            boolean isPrivate = Modifier.isPrivate(method.getModifiers());
            due.holds(method + " is public or private", isPrivate || Modifier.isPublic(method.getModifiers()));
            due.holds(method + " bears no public name", !isPrivate || !publicNames.contains(method.getName()));
        }
        fields(type);
        for (Class<?> inside : type.getDeclaredClasses()) {
            int modifiers = inside.getModifiers();
            due.holds(inside + " is static", Modifier.isStatic(modifiers));
            due.holds(inside + " is not public or protected", !Modifier.isPublic(modifiers) && !Modifier.isProtected(modifiers));
            for (Method method : inside.getDeclaredMethods()) {
                due.holds(method + " bears no public name", !publicNames.contains(method.getName()));
                due.holds(method + " has at most seven parameters", method.getParameterCount() <= 7);
            }
            fields(inside);
        }
        due.holds("some twelve classes", type.getDeclaredClasses().length <= 12);
    }

    private static void fields(Class<?> type) {
        int own = 0;
        for (Field field : type.getDeclaredFields()) {
            due.holds(field + " is private", Modifier.isPrivate(field.getModifiers()));
            if (Modifier.isStatic(field.getModifiers())) {
                due.holds(field + " is a constant", Modifier.isFinal(field.getModifiers()) && field.getType() == int.class);
            } else {
                own++;
            }
        }
        due.holds(type + " has at most twenty fields", own <= 20);
    }

    private static void text(String source) {
        String code = source.replaceAll("(?s)/\\*.*?\\*/", "").replaceAll("//[^\n]*", "");
        for (String word : NOT_IN_THE_TEXT) {
            due.holds("no " + word + " in the text", !Pattern.compile(word).matcher(code).find());
        }
        due.holds("texts are not joined by +", !Pattern.compile("\"\\s*\\+|\\+\\s*\"").matcher(code).find());
        Matcher imports = Pattern.compile("import ([^;]*);").matcher(code);
        while (imports.find()) {
            due.holds("import " + imports.group(1), imports.group(1).equals("java.util.Arrays"));
        }
        for (int i = 0; i < source.length(); i++) {
            due.holds("a sign of the source is 10 or 32 to 126", source.charAt(i) == 10
                || source.charAt(i) >= 32 && source.charAt(i) <= 126);
        }
        int place = 0;
        for (String section : SECTIONS) {
            int found = source.indexOf("// ---- " + section + "\n");
            due.holds("---- " + section + " stands behind the section ahead of it", found > place);
            place = found;
        }
    }

    /** A method begins with a line that ends in ") {" at the depth of members, and ends with its brace. */
    private static void methodLengths(String source) {
        String[] lines = source.split("\n");
        for (int i = 0; i < lines.length; i++) {
            Matcher head = Pattern.compile("^( {4}| {8})[a-zA-Z].*\\).* \\{$").matcher(lines[i]);
            if (head.matches()) {
                int end = i;
                while (!lines[end].equals(head.group(1) + "}")) {
                    end++;
                }
                due.holds("at most sixty lines: " + lines[i].trim(), end - i < 60);
            }
        }
    }
}
