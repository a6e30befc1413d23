import java.io.IOException;
import java.lang.reflect.Field;
import java.lang.reflect.Method;
import java.lang.reflect.Modifier;
import java.nio.file.Files;
import java.nio.file.Path;
import java.util.Map;
import java.util.Set;
import java.util.TreeMap;
import java.util.TreeSet;
import java.util.regex.Matcher;
import java.util.regex.Pattern;

/** The public face of the document, and the rules of LANGUAGE.md that can be seen in the class and in its text. */
public final class FaceTest {
    private static final Path SOURCE = Path.of("src/main/java/MirrorWires.java");
    private static final Map<String, Integer> FACE = new TreeMap<>(Map.ofEntries(
            Map.entry("wires", 1), Map.entry("gate", 4), Map.entry("of", 2), Map.entry("does", 2),
            Map.entry("type", 1), Map.entry("circuit", 0), Map.entry("count", 1), Map.entry("step", 1),
            Map.entry("back", 1), Map.entry("home", 0), Map.entry("flip", 1), Map.entry("kill", 1),
            Map.entry("heal", 1), Map.entry("move", 2), Map.entry("drift", 1), Map.entry("undo", 0),
            Map.entry("seed", 1), Map.entry("goes", 2), Map.entry("far", 2), Map.entry("ring", 1),
            Map.entry("rings", 1), Map.entry("order", 0), Map.entry("odd", 0), Map.entry("alike", 2),
            Map.entry("pair", 0), Map.entry("hangs", 2), Map.entry("way", 3), Map.entry("reach", 1),
            Map.entry("shows", 1), Map.entry("telling", 1), Map.entry("likely", 3), Map.entry("image", 0),
            Map.entry("restore", 0), Map.entry("came", 6), Map.entry("film", 5), Map.entry("sheet", 3),
            Map.entry("drop", 1), Map.entry("item", 4), Map.entry("copy", 5)));
    private static final Set<String> CONSTANTS =
            new TreeSet<>(Set.of("BAD", "NOT", "FULL", "NONE", "NULL", "CAST", "INDEX", "SIZE"));

    private FaceTest() { }

    public static void main(String[] args) throws IOException {
        face();
        inside();
        text(Files.readString(SOURCE));
        Script.end();
    }

    private static void same(String what, Object got, Object want) {
        if (!got.equals(want)) {
            System.out.println(what + ": " + got + ", due is " + want);
        }
        Script.due(what, got.equals(want) ? 1 : 0, 1);
    }

    private static void face() {
        Map<String, Integer> methods = new TreeMap<>();
        for (Method method : MirrorWires.class.getDeclaredMethods()) {
            if (Modifier.isPublic(method.getModifiers())) {
                methods.put(method.getName(), method.getParameterCount());
                same(method.getName() + " answers an int", method.getReturnType(), int.class);
                same(method.getName() + " throws nothing told", method.getExceptionTypes().length, 0);
                same(method.getName() + " is of the object", Modifier.isStatic(method.getModifiers()), false);
                numbers(method);
            } else {
                same(method.getName() + " is private", Modifier.isPrivate(method.getModifiers()), true);
                same(method.getName() + " is no name of the face", FACE.containsKey(method.getName()), false);
            }
        }
        same("the methods", methods, FACE);
        Set<String> constants = new TreeSet<>();
        for (Field field : MirrorWires.class.getDeclaredFields()) {
            if (Modifier.isPublic(field.getModifiers())) {
                constants.add(field.getName());
                same(field.getName() + " is an int", field.getType(), int.class);
                same(field.getName() + " is a constant", field.getModifiers(),
                        Modifier.PUBLIC | Modifier.STATIC | Modifier.FINAL);
            } else {
                same(field.getName() + " is private", Modifier.isPrivate(field.getModifiers()), true);
            }
        }
        same("the constants", constants, CONSTANTS);
        same("final", Modifier.isFinal(MirrorWires.class.getModifiers()), true);
        same("one constructor", MirrorWires.class.getDeclaredConstructors().length, 1);
        same("it is public", MirrorWires.class.getConstructors().length, 1);
        same("it takes nothing", MirrorWires.class.getDeclaredConstructors()[0].getParameterCount(), 0);
    }

    /** All that is told to a call is an int, but for the v of item, a long. */
    private static void numbers(Method method) {
        Class<?>[] types = method.getParameterTypes();
        for (int t = 0; t < types.length; t++) {
            boolean isItem = method.getName().equals("item") && t == 3;
            same(method.getName() + ", number " + t, types[t], isItem ? long.class : int.class);
        }
    }

    private static void inside() {
        Class<?>[] classes = MirrorWires.class.getDeclaredClasses();
        same("at most twelve classes", classes.length < 12, true);
        for (Class<?> one : classes) {
            same(one + " is static", Modifier.isStatic(one.getModifiers()), true);
            same(one + " is not public", Modifier.isPublic(one.getModifiers()), false);
            int own = 0;
            for (Field field : one.getDeclaredFields()) {
                boolean isStatic = Modifier.isStatic(field.getModifiers());
                own += isStatic ? 0 : 1;
                same(field + " is final if static", !isStatic || Modifier.isFinal(field.getModifiers()), true);
            }
            same(one + " has at most twenty fields", own <= 20, true);
            for (Method method : one.getDeclaredMethods()) {
                same(method + " has at most seven numbers", method.getParameterCount() <= 7, true);
                same(method + " is no name of the face", FACE.containsKey(method.getName()), false);
            }
        }
    }

    private static void text(String source) {
        String bare = source.replaceAll("(?s)/\\*.*?\\*/", " ").replaceAll("//[^\n]*", " ");
        String[] never = {"->", "::", "\\bcatch\\b", "\\btry\\b", "\\bfinally\\b", "\\bthrow\\b", "\\bassert\\b",
            "\\bsynchronized\\b", "\\bSystem\\.(?!arraycopy)", "\\bThread\\b", "\\bRandom\\b", "Exact\\(", "\\bpackage\\b",
            "\\bString\\b", "\\bdouble\\b", "\\bfloat\\b", "\\bObject\\b", "\\bprotected\\b", "\\bstatic\\s*\\{"};
        for (String sign : never) {
            Matcher found = Pattern.compile(sign).matcher(bare);
            same("the text has no " + sign, found.find(), false);
        }
        Set<String> imports = new TreeSet<>();
        Matcher each = Pattern.compile("import\\s+([\\w.*]+);").matcher(bare);
        while (each.find()) {
            imports.add(each.group(1));
        }
        same("imports", imports, new TreeSet<>(Set.of("java.util.Arrays")));
        newOnlyWhereAnObjectIsMade(bare);
    }

    /** One room holds all calls of a run, so nothing is made but by field initialisers and constructors. */
    private static void newOnlyWhereAnObjectIsMade(String bare) {
        for (String line : bare.split("\n")) {
            boolean field = line.matches("\\s*(private )?final \\S+ \\w+ = new .*");
            boolean filled = line.matches("\\s*(sheets|boards)\\[[sb]\\] = new \\w+\\(\\);");
            if (line.contains("new ")) {
                same("made in a constructor: " + line.trim(), field || filled, true);
            }
        }
    }
}
