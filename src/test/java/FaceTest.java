import java.lang.reflect.Constructor;
import java.lang.reflect.Field;
import java.lang.reflect.Method;
import java.lang.reflect.Modifier;
import java.nio.file.Files;
import java.nio.file.Path;
import java.util.Arrays;
import java.util.Set;
import java.util.TreeSet;
import java.util.regex.Pattern;

/** The public face, and those rules of LANGUAGE.md that can be seen from outside or from single words. */
public final class FaceTest {
    private static final Check CHECK = new Check("FaceTest");
    private static final String[] FACE = {
        "int letters(int)", "int prime(int)", "int order(int)", "int set(int,int,int)", "int product(int,int,int)",
        "int mix(int,int,int,int,int)", "int becomes(int,int,int)", "int generate(int)", "int clear()", "int feed(int)",
        "int read()", "int of(int,int)", "int told(int)", "int generator(int,int)", "int places(int,int)",
        "int lead(int)", "int rank(int)", "int basis(int,int,int)", "int within(int,int)", "int rest(int,int,int)",
        "int count(int,int)", "int series(int,int,int)", "long mean(int)", "int annihilator(int,int,int)",
        "int annihilates(int,int,int,int)", "int step(int)", "int fits(int,int,int,int)", "long odds(int,int)",
        "int event(int,int)", "int after(int,int)", "int book(int,int)", "int looked()", "int judge(int,int,int)",
        "int image()", "int undo()", "int counted(int)", "int tape(int,int,int)", "int item(int,int,long)",
        "long peek(int,int)", "int shift(int,int,int,int,int)"};
    private static final String[] FORBIDDEN = {
        "\\bcatch\\b", "\\bthrow\\b", "\\btry\\b", "\\bfinally\\b", "\\bimport\\b", "->", "::", "\\bsynchronized\\b",
        "\\bassert\\b", "Exact\\b", "\\bFloat\\b", "\\bDouble\\b", "\\bSystem\\.(?!arraycopy)", "\\bpackage\\b",
        "while \\(true\\)", "for \\(;;\\)", "\\bprotected\\b", "\\bhashCode\\b", "\\btoString\\b"};

    public static void main(String[] args) throws Exception {
        constants();
        face();
        insideClasses();
        words();
        CHECK.end();
    }

    private static void constants() throws Exception {
        CHECK.due("NONE", OuterIdeals.NONE, -1);
        CHECK.due("BAD", OuterIdeals.BAD, -2);
        CHECK.due("STATE", OuterIdeals.STATE, -3);
        CHECK.due("FULL", OuterIdeals.FULL, -4);
        CHECK.due("NO", OuterIdeals.NO, Long.MIN_VALUE);
        Set<String> seen = new TreeSet<>();
        for (Field field : OuterIdeals.class.getDeclaredFields()) {
            if (!Modifier.isPrivate(field.getModifiers())) {
                CHECK.holds(field + " is a constant", Modifier.toString(field.getModifiers()).equals("public static final"));
                seen.add(field.getName());
            }
            CHECK.holds(field + " is final, if static",
                !Modifier.isStatic(field.getModifiers()) || Modifier.isFinal(field.getModifiers()));
        }
        CHECK.holds("no constant but those", seen.equals(Set.of("NONE", "BAD", "STATE", "FULL", "NO")));
    }

    private static void face() {
        CHECK.holds("public and final", OuterIdeals.class.getModifiers() == (Modifier.PUBLIC | Modifier.FINAL));
        CHECK.holds("no package", OuterIdeals.class.getPackageName().isEmpty());
        Constructor<?>[] constructors = OuterIdeals.class.getDeclaredConstructors();
        CHECK.due("constructors", constructors.length, 1);
        CHECK.due("its parameters", constructors[0].getParameterCount(), 0);
        CHECK.holds("public constructor", Modifier.isPublic(constructors[0].getModifiers()));
        Set<String> seen = new TreeSet<>();
        Set<String> names = new TreeSet<>();
        for (Method method : OuterIdeals.class.getDeclaredMethods()) {
            if (!Modifier.isPrivate(method.getModifiers())) {
                seen.add(told(method));
                names.add(method.getName());
                CHECK.holds(method + " is public alone", method.getModifiers() == Modifier.PUBLIC);
            }
        }
        CHECK.holds("the methods of the document: " + seen, seen.equals(new TreeSet<>(Arrays.asList(FACE))));
        for (Method method : OuterIdeals.class.getDeclaredMethods()) {
            CHECK.holds(method + " bears no public name",
                !Modifier.isPrivate(method.getModifiers()) || !names.contains(method.getName()));
        }
    }

    private static String told(Method method) {
        StringBuilder told = new StringBuilder(method.getReturnType() + " " + method.getName() + "(");
        for (Class<?> parameter : method.getParameterTypes()) {
            told.append(told.charAt(told.length() - 1) == '(' ? "" : ",").append(parameter);
        }
        return told.append(")").toString();
    }

    private static void insideClasses() {
        Class<?>[] inside = OuterIdeals.class.getDeclaredClasses();
        CHECK.holds("some twelve classes", inside.length <= 11);
        for (Class<?> one : inside) {
            CHECK.holds(one + " is static", Modifier.isStatic(one.getModifiers()));
            CHECK.holds(one + " is not public", !Modifier.isPublic(one.getModifiers()));
            int fields = 0;
            for (Field field : one.getDeclaredFields()) {
                fields += Modifier.isStatic(field.getModifiers()) ? 0 : 1;
                CHECK.holds(field + " is final, if static",
                    !Modifier.isStatic(field.getModifiers()) || Modifier.isFinal(field.getModifiers()));
            }
            CHECK.holds(one + " has some twenty fields", fields <= 20);
            for (Method method : one.getDeclaredMethods()) {
                CHECK.holds(method + " has at most seven parameters", method.getParameterCount() <= 7);
            }
        }
    }

    private static void words() throws Exception {
        String source = Files.readString(Path.of("src/main/java/OuterIdeals.java"));
        String code = source.replaceAll("(?s)/\\*.*?\\*/", "").replaceAll("//[^\n]*", "");
        for (String word : FORBIDDEN) {
            CHECK.holds("no " + word, !Pattern.compile(word).matcher(code).find());
        }
    }
}
