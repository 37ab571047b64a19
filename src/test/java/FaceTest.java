import java.io.IOException;
import java.lang.reflect.Constructor;
import java.lang.reflect.Executable;
import java.lang.reflect.Field;
import java.lang.reflect.Method;
import java.lang.reflect.Modifier;
import java.nio.file.Files;
import java.nio.file.Path;
import java.util.Arrays;
import java.util.List;
import java.util.Set;
import java.util.TreeSet;
import java.util.regex.Matcher;
import java.util.regex.Pattern;

/** The public face as the document lists it, and what LANGUAGE.md rules out that can be seen from outside. */
public final class FaceTest {
    private static final String METHODS =
        "int feed(int,int,int,int,int) boolean end(int) int fault(int) int text(int) int rule(int) int cell(int,int) "
        + "int fork(int,int) boolean law(int) int twitch(int,int) int go(int,int) int sink(int) int season() "
        + "int stroll(int,long) int undo() int book(int,int) int step(int,int,int) int run(int,int) int perform(int) "
        + "int brings(int,int) int cheapest(int,int) int reach(int,int) int stuck() int trail(int,int) "
        + "int hear(int,int,boolean) int fits(int,int) int sure(int) int ask(int) int wrong(int) int chance(int) "
        + "int wishers(int) int right(int) int best() int nearest(int) int meets() int shallow() int heap() "
        + "int costs(int) int loses(int) int richest() int driest() int image() int back() int count(int)";

    public static void main(String[] args) throws IOException {
        constants();
        members();
        insideClasses();
        source();
        Check.finish("FaceTest");
    }

    private static void constants() {
        Check.due("NONE", HeathForks.NONE, -1);
        Check.due("HIDDEN", HeathForks.HIDDEN, -1000000);
        for (Field field : HeathForks.class.getDeclaredFields()) {
            boolean told = field.getName().equals("NONE") || field.getName().equals("HIDDEN");
            Check.due("field " + field.getName() + " is public", Modifier.isPublic(field.getModifiers()), told);
            Check.due("field " + field.getName() + " is private", Modifier.isPrivate(field.getModifiers()), !told);
            boolean still = !Modifier.isStatic(field.getModifiers()) || Modifier.isFinal(field.getModifiers());
            Check.due("static field " + field.getName() + " is final", still, true);
        }
    }

    private static String told(Method method) {
        StringBuilder text = new StringBuilder(method.getReturnType() + " " + method.getName() + "(");
        for (Class<?> type : method.getParameterTypes()) {
            text.append(text.charAt(text.length() - 1) == '(' ? "" : ",").append(type);
        }
        return text.append(")").toString();
    }

    private static void members() {
        Set<String> seen = new TreeSet<>();
        Set<String> names = new TreeSet<>();
        Set<String> hidden = new TreeSet<>();
        for (Method method : HeathForks.class.getDeclaredMethods()) {
            if (Modifier.isPublic(method.getModifiers())) {
                seen.add(told(method));
                names.add(method.getName());
            } else {
                Check.due(method + " is private", Modifier.isPrivate(method.getModifiers()), true);
                hidden.add(method.getName());
            }
            fewParameters(method);
        }
        Set<String> due = new TreeSet<>(Arrays.asList(METHODS.split(" (?=int |boolean )")));
        Check.due("methods of the face", seen.equals(due), true);
        Check.due("how many", seen.size(), 43);
        names.retainAll(hidden);
        Check.due("private methods with a public name " + names, names.size(), 0);
        Constructor<?>[] constructors = HeathForks.class.getDeclaredConstructors();
        Check.due("constructors", constructors.length, 1);
        Check.due("its parameters", constructors[0].getParameterCount(), 0);
        Check.due("it is public", Modifier.isPublic(constructors[0].getModifiers()), true);
        int own = HeathForks.class.getModifiers();
        Check.due("public and final", Modifier.isPublic(own) && Modifier.isFinal(own), true);
    }

    private static void fewParameters(Executable method) {
        Check.due("parameters of " + method.getName() + " are few", method.getParameterCount() <= 7, true);
    }

    private static void insideClasses() {
        Class<?>[] inside = HeathForks.class.getDeclaredClasses();
        Check.due("classes in all are few", inside.length + 1 <= 12, true);
        for (Class<?> one : inside) {
            Check.due(one + " is static", Modifier.isStatic(one.getModifiers()), true);
            Check.due(one + " is private", Modifier.isPrivate(one.getModifiers()), true);
            Check.due(one + " has few fields", one.getDeclaredFields().length <= 20, true);
            for (Method method : one.getDeclaredMethods()) {
                fewParameters(method);
                Check.due(one + " has a method of the face's name " + method.getName(),
                    METHODS.contains(" " + method.getName() + "("), false);
            }
        }
    }

    /** From the line that opens a method to the one that closes it, as many columns in. */
    private static void shortMethods(List<String> lines) {
        Pattern opens = Pattern.compile("( {4}| {8})[^ /*}].*\\) (throws \\w+ )?\\{");
        int found = 0;
        for (int i = 0; i < lines.size(); i++) {
            Matcher opening = opens.matcher(lines.get(i));
            if (opening.matches() && !opening.group().trim().matches("(if|for|while|switch) .*")) {
                int length = lines.subList(i, lines.size()).indexOf(opening.group(1) + "}") + 1;
                Check.due("method at line " + (i + 1) + " is short", length > 0 && length <= 60, true);
                found++;
            }
        }
        Check.due("methods were found", found > 100, true);
    }

    private static void source() throws IOException {
        List<String> lines = Files.readAllLines(Path.of("src/main/java/HeathForks.java"));
        Pattern ruledOut = Pattern.compile("\\bcatch\\b|\\btry\\b|\\bfinally\\b|->|::|\\bsynchronized\\b|\\bassert\\b"
            + "|\\bSystem\\.(?!arraycopy)|Exact\\b|\\bdouble\\b|\\bfloat\\b|\\bThread\\b|\\bfor \\(;;\\)|while \\(true\\)");
        for (int i = 0; i < lines.size(); i++) {
            Check.due("line " + (i + 1) + " is outside the rules", ruledOut.matcher(lines.get(i)).find(), false);
        }
        shortMethods(lines);
        Check.due("one import at most", lines.stream().filter(line -> line.startsWith("import ")).count(), 1);
    }
}
