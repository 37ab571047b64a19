import java.io.IOException;
import java.lang.reflect.Method;
import java.lang.reflect.Modifier;
import java.nio.file.Files;
import java.nio.file.Path;

/** README.md's example, line by line as it stands there, and its table of calls. */
public final class ReadmeTest {
    private static String readme = "";

    public static void main(String[] args) throws IOException {
        readme = Files.readString(Path.of("README.md"));
        example();
        everyCallIsNamed();
        Check.finish("ReadmeTest");
    }

    private static void says(String line) {
        Check.due("README says " + line, readme.contains(line), true);
    }

    private static void example() {
        HeathForks x = new HeathForks();
        says("x.feed(0x73773368, 0x323b7663, 0x31643566, 0x303b6600, 0); // \"sw3h2;vc1d5f0;f\"");
        Check.due("feed", x.feed(0x73773368, 0x323b7663, 0x31643566, 0x303b6600, 0), "sw3h2;vc1d5f0;f".length());
        Check.due("the text told", Check.word("sw3h2;vc1d5f0;f", 0), 0x73773368);
        says("int fault = x.fault(0);    // NONE: no fault");
        Check.due("fault", x.fault(0), HeathForks.NONE);
        says("int cells = x.text(0);     // 6");
        Check.due("text", x.text(0), 6);
        says("int twitch = x.go(0, 0);   // fork 0 goes right: 26");
        Check.due("go", x.go(0, 0), 26);
        says("int cost = x.sink(1);      // a well where it twitched: 5");
        Check.due("sink", x.sink(1), 5);
        says("int left = x.undo();       // the well is gone; one act can still be undone");
        Check.due("undo", x.undo(), 1);
        Check.due("the well", x.cell(1, 3), 0);
        says("x.feed(0x793a6d2d, 0x64000000, 0, 0, 0); // \"y:m-d\"");
        Check.due("feed", x.feed(0x793a6d2d, 0x64000000, 0, 0, 0), "y:m-d".length());
        says("boolean holds = x.law(x.text(1));        // law 0 holds from now on: true");
        Check.due("law", x.law(x.text(1)), true);
        Check.due("the law that holds", x.count(6), 0);
        says("x.feed(0x306c7264, 0, 0, 0, 0); // \"0lrd\"");
        Check.due("feed", x.feed(0x306c7264, 0, 0, 0, 0), "0lrd".length());
        says("int walks = x.text(2);          // 0");
        Check.due("text", x.text(2), 0);
        says("int sum = x.run(walks, 1);      // what its twitches would be together: 25");
        Check.due("run", x.run(0, 1), 25);
        says("int done = x.perform(walks);    // three steps, as acts");
        Check.due("perform", x.perform(0), 3);
        Check.due("acts", x.count(13), 4);
    }

    private static void everyCallIsNamed() {
        int named = 0;
        for (String line : readme.split("\n")) {
            String[] parts = line.split(" \\| ");
            if (line.startsWith("| ") && parts.length == 2) {
                for (String name : parts[0].substring(2).split(", ")) {
                    named += isOfTheFace(name) ? 1 : 0;
                }
            }
        }
        Check.due("calls of the face that the table names", named, 43);
    }

    private static boolean isOfTheFace(String name) {
        for (Method method : HeathForks.class.getDeclaredMethods()) {
            if (Modifier.isPublic(method.getModifiers()) && method.getName().equals(name)) {
                return true;
            }
        }
        return false;
    }
}
