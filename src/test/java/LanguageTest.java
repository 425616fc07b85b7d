import java.io.IOException;
import java.lang.reflect.Constructor;
import java.lang.reflect.Field;
import java.lang.reflect.Method;
import java.lang.reflect.Modifier;
import java.nio.file.Files;
import java.nio.file.Path;
import java.util.Arrays;
import java.util.Set;
import java.util.TreeSet;
import java.util.regex.Matcher;
import java.util.regex.Pattern;

/** The public face, and the rules of LANGUAGE.md that can be seen from outside or in the text of the class. */
final class LanguageTest {
    private static final Path SOURCE = Path.of("src/main/java/FlameBend.java");
    private static final String[] FACE = {
        "int say(int)", "int wipe()", "int fault()", "int take()", "int strike(int)", "int pass(int,int)",
        "int table(int,int,int)", "int set(int,int)", "int bend(int)", "int height(int)", "int wish(int,int)",
        "int miss(int)", "int worst()", "int twist(int)", "int bound()", "int item(int,int,boolean,boolean)",
        "int chosen(int,int)", "int next(int)", "int steps(int)", "int read(int,int)", "int forget(int)",
        "int flat(int)", "int odd(int)", "int bendRead(int,int)", "long skill(int)", "int attempt(int,int,int)",
        "int span(int,int)", "int widest()", "int weld(int,int)", "int order(int)", "int shared(int,int)",
        "int told(int)"};
    private static final String[] CONSTANTS = {"UNKNOWN", "OUTSIDE", "STATE", "FULL", "NO", "NONE", "LOST"};
    private static final String[] BARRED = {"\\bthrow\\b", "\\bthrows\\b", "\\btry\\b", "\\bcatch\\b",
        "\\bsynchronized\\b", "\\bassert\\b", "\\bpackage\\b", "\\bprotected\\b", "->", "::", "\\bstatic\\s*\\{",
        "Exact\\s*\\(", "\\bSystem\\.(?!arraycopy\\b)", "\\bObject\\b", "\\bhashCode\\b", "\\btoString\\b",
        "\\bimport (?!java\\.util\\.(Arrays|ArrayList|List|Iterator);)", "\\bThread\\b", "\\bRandom\\b"};

    private int done = 0;
    private int wrong = 0;

    public static void main(String[] args) throws IOException {
        LanguageTest test = new LanguageTest();
        test.face();
        for (Class<?> inside : FlameBend.class.getDeclaredClasses()) {
            test.inside(inside);
        }
        test.text();
        System.out.println("LanguageTest: " + test.done + " rules looked at, " + test.wrong + " broken");
        System.exit(test.wrong == 0 ? 0 : 1);
    }

    private void must(boolean holds, String rule) {
        done++;
        if (!holds) {
            wrong++;
            System.out.println("broken: " + rule);
        }
    }

    private static String told(Method method) {
        StringBuilder text = new StringBuilder(method.getReturnType().getSimpleName());
        text.append(' ').append(method.getName()).append('(');
        for (Class<?> type : method.getParameterTypes()) {
            text.append(text.charAt(text.length() - 1) == '(' ? "" : ",").append(type.getSimpleName());
        }
        return text.append(')').toString();
    }

    private void face() {
        Set<String> methods = new TreeSet<>();
        for (Method method : FlameBend.class.getDeclaredMethods()) {
            if (Modifier.isPrivate(method.getModifiers())) {
                continue;
            }
            methods.add(told(method));
            must(Modifier.isPublic(method.getModifiers()) && !Modifier.isStatic(method.getModifiers()),
                told(method) + " is a public call");
        }
        must(methods.equals(new TreeSet<>(Arrays.asList(FACE))), "the methods are the document's: " + methods);
        Set<String> constants = new TreeSet<>();
        for (Field field : FlameBend.class.getDeclaredFields()) {
            if (!Modifier.isPrivate(field.getModifiers())) {
                constants.add(field.getName());
                must(field.getModifiers() == (Modifier.PUBLIC | Modifier.STATIC | Modifier.FINAL)
                    && field.getType() == int.class, field.getName() + " is a constant");
            }
        }
        must(constants.equals(new TreeSet<>(Arrays.asList(CONSTANTS))), "the constants are the document's");
        Constructor<?>[] makers = FlameBend.class.getDeclaredConstructors();
        must(makers.length == 1 && makers[0].getParameterCount() == 0
            && Modifier.isPublic(makers[0].getModifiers()), "one public constructor");
        must(FlameBend.class.getModifiers() == (Modifier.PUBLIC | Modifier.FINAL), "public and final");
        must(FlameBend.class.getPackageName().isEmpty(), "no package");
        must(FlameBend.class.getDeclaredClasses().length < 12, "some twelve classes");
        members(FlameBend.class);
    }

    private void inside(Class<?> inside) {
        must(Modifier.isStatic(inside.getModifiers()) && !Modifier.isPublic(inside.getModifiers()),
            inside + " is static and not public");
        must(inside.getDeclaredClasses().length == 0, inside + " has no class inside");
        members(inside);
    }

    private void members(Class<?> owner) {
        Set<String> publicNames = new TreeSet<>();
        for (String call : FACE) {
            publicNames.add(call.substring(call.indexOf(' ') + 1, call.indexOf('(')));
        }
        int fields = 0;
        for (Field field : owner.getDeclaredFields()) {
            boolean isStatic = Modifier.isStatic(field.getModifiers());
            must(!isStatic || Modifier.isFinal(field.getModifiers()), field + " is final");
            fields += isStatic ? 0 : 1;
        }
        must(fields <= 20, owner + " has some twenty fields");
        for (Method method : owner.getDeclaredMethods()) {
            must(method.getParameterCount() <= 7, method + " has at most seven parameters");
            must(Modifier.isPublic(method.getModifiers()) || !publicNames.contains(method.getName()),
                method + " bears no public name");
        }
    }

    private void text() throws IOException {
        String source = Files.readString(SOURCE);
        must(source.chars().allMatch(c -> c == '\n' || c >= 32 && c < 127), "plain signs alone");
        String bare = source.replaceAll("(?s)/\\*.*?\\*/", "").replaceAll("//[^\n]*", "").replaceAll("'.'", "' '");
        for (String barred : BARRED) {
            Matcher matcher = Pattern.compile(barred).matcher(bare);
            must(!matcher.find(), "nothing like " + barred);
        }
        must(!bare.contains("\""), "no text in the class");
        int length = 0;
        int longest = 0;
        for (String line : source.split("\n")) {
            boolean begins = line.matches("( {4}| {8})[A-Za-z].*\\) \\{");
            length = begins ? 1 : length + 1;
            if (line.matches(" {4}( {4})?\\}")) {
                longest = Math.max(longest, length);
                length = 0;
            }
        }
        must(longest > 10 && longest <= 60, "methods stay short: " + longest);
    }
}
