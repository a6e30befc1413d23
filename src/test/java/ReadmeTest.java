import java.io.IOException;
import java.lang.reflect.Method;
import java.lang.reflect.Modifier;
import java.nio.file.Files;
import java.nio.file.Path;
import java.util.Set;
import java.util.TreeSet;
import java.util.regex.Matcher;
import java.util.regex.Pattern;

/** The calls that README.md shows, each with the answer told behind it; every call of the face is among them. */
public final class ReadmeTest {
    private static final Pattern ROW =
            Pattern.compile("(x\\.\\w+\\(.*\\)|read\\(x, \".*\"\\)); *// ([A-Z]+|-?\\d+)(:.*)?");
    private static final Pattern LETTER = Pattern.compile("'(.)'");

    private ReadmeTest() { }

    public static void main(String[] args) throws IOException {
        Set<String> shown = new TreeSet<>();
        MirrorWires x = new MirrorWires();
        for (String line : Files.readAllLines(Path.of("README.md"))) {
            Matcher row = ROW.matcher(line);
            if (line.equals("MirrorWires x = new MirrorWires();")) {
                x = new MirrorWires();
            } else if (row.matches()) {
                shown.add(asked(x, row.group(1), row.group(2)));
            } else {
                Script.due("README.md, a row that can't be read: " + line, line.matches("(x\\.|read\\().*") ? 1 : 0, 0);
            }
        }
        for (Method method : MirrorWires.class.getDeclaredMethods()) {
            if (Modifier.isPublic(method.getModifiers())) {
                Script.due("README.md shows " + method.getName(), shown.contains(method.getName()) ? 1 : 0, 1);
            }
        }
        Script.end();
    }

    /** Asks what a row of README.md asks: the name of the call. */
    private static String asked(MirrorWires x, String call, String answer) {
        if (call.startsWith("read(")) {
            String text = call.substring(call.indexOf('"') + 1, call.lastIndexOf('"'));
            Script.rows("README.md", x, new String[] {"read '" + text + "' = " + answer});
            return "circuit";
        }
        String numbers = LETTER.matcher(call.substring(2)).replaceAll(sign -> "" + (int) sign.group(1).charAt(0));
        Script.rows("README.md", x, new String[] {numbers.replace("L)", ")") + " = " + answer});
        return numbers.substring(0, numbers.indexOf('('));
    }
}
