import java.lang.reflect.Constructor;
import java.lang.reflect.Field;
import java.lang.reflect.Method;
import java.lang.reflect.Modifier;
import java.nio.file.Files;
import java.nio.file.Path;
import java.util.Arrays;
import java.util.TreeSet;
import java.util.regex.Matcher;
import java.util.regex.Pattern;

/** The public face of the document, and the rules of LANGUAGE.md that a machine can look at. */
public final class FaceTest {
    private static final String[] FACE = {
        "boolean close(int,int,int,int)", "boolean light(int,int,int)", "boolean ordered()",
        "boolean stop(int,int)", "int back(int)", "int come(int,int)", "int count(int)",
        "int counted(int,int)", "int drawn(int,int)", "int gap(int)", "int line(int)",
        "int many(int)", "int run(int)", "int save(int)", "int times()", "int told(int,int)",
        "int waiting(int)"
    };

    private static final String[] FORBIDDEN = {
        "\\bthrow\\b", "\\bthrows\\b", "\\btry\\b", "\\bcatch\\b", "\\bsynchronized\\b", "\\bassert\\b",
        "\\bimport\\b", "\\bpackage\\b", "->", "::", "\\bequals\\b", "\\bhashCode\\b", "\\btoString\\b",
        "\\w+Exact\\b", "\\bSystem\\.(?!arraycopy)"
    };

    public static void main(String[] args) throws Exception {
        Checks checks = new Checks();
        membersAreTheDocuments(checks);
        noPrivateMethodBearsAPublicName(checks);
        sourceKeepsToTheLanguage(checks);
        checks.end();
    }

    private static void membersAreTheDocuments(Checks checks) throws Exception {
        TreeSet<String> found = new TreeSet<>();
        for (Method method : CarSeeds.class.getDeclaredMethods()) {
            if (!Modifier.isPrivate(method.getModifiers())) {
                checks.due("public " + method, Modifier.isPublic(method.getModifiers()), true);
                checks.due("static " + method, Modifier.isStatic(method.getModifiers()), false);
                found.add(shape(method));
            }
        }
        checks.due("methods " + found, found.equals(new TreeSet<>(Arrays.asList(FACE))), true);
        for (Field field : CarSeeds.class.getDeclaredFields()) {
            boolean isBad = field.getName().equals("BAD");
            int wanted = Modifier.PUBLIC | Modifier.STATIC | Modifier.FINAL;
            checks.due("hidden " + field, isBad || Modifier.isPrivate(field.getModifiers()), true);
            checks.due("constant " + field, !isBad || field.getModifiers() == wanted, true);
            boolean isFixed = !Modifier.isStatic(field.getModifiers()) || Modifier.isFinal(field.getModifiers());
            checks.due("no static state " + field, isFixed, true);
        }
        checks.due("BAD", CarSeeds.BAD, -1);
        Constructor<?>[] makers = CarSeeds.class.getDeclaredConstructors();
        checks.due("constructors", makers.length, 1);
        checks.due("constructor", Modifier.isPublic(
                CarSeeds.class.getDeclaredConstructor(long.class, int.class, int.class).getModifiers()), true);
        checks.due("class", CarSeeds.class.getModifiers(), Modifier.PUBLIC | Modifier.FINAL);
        for (Class<?> inside : CarSeeds.class.getDeclaredClasses()) {
            checks.due("static " + inside, Modifier.isStatic(inside.getModifiers()), true);
            checks.due("hidden " + inside, Modifier.isPublic(inside.getModifiers()), false);
        }
    }

    private static String shape(Method method) {
        StringBuilder text = new StringBuilder(method.getReturnType().getName());
        text.append(' ').append(method.getName()).append('(');
        Class<?>[] parameters = method.getParameterTypes();
        for (int i = 0; i < parameters.length; i++) {
            text.append(i == 0 ? "" : ",").append(parameters[i].getName());
        }
        return text.append(')').toString();
    }

    private static void noPrivateMethodBearsAPublicName(Checks checks) {
        TreeSet<String> names = new TreeSet<>();
        for (String method : FACE) {
            names.add(method.substring(method.indexOf(' ') + 1, method.indexOf('(')));
        }
        for (Class<?> inside : CarSeeds.class.getDeclaredClasses()) {
            for (Method method : inside.getDeclaredMethods()) {
                checks.due("name of " + method, names.contains(method.getName()), false);
                checks.due("parameters of " + method, method.getParameterCount() <= 7, true);
            }
        }
        for (Method method : CarSeeds.class.getDeclaredMethods()) {
            boolean isHidden = Modifier.isPrivate(method.getModifiers());
            checks.due("name of " + method, isHidden && names.contains(method.getName()), false);
        }
    }

    private static void sourceKeepsToTheLanguage(Checks checks) throws Exception {
        String source = Files.readString(Path.of("src/main/java/CarSeeds.java"));
        String code = source.replaceAll("(?s)/\\*.*?\\*/", "").replaceAll("//[^\n]*", "");
        for (String word : FORBIDDEN) {
            Matcher found = Pattern.compile(word).matcher(code);
            checks.due("the source has " + word, found.find(), false);
        }
        checks.due("classes", CarSeeds.class.getDeclaredClasses().length + 1 <= 12, true);
        for (Class<?> inside : CarSeeds.class.getDeclaredClasses()) {
            int fields = 0;
            for (Field field : inside.getDeclaredFields()) {
                fields += Modifier.isStatic(field.getModifiers()) ? 0 : 1;
            }
            checks.due("fields of " + inside, fields <= 20, true);
        }
    }
}
