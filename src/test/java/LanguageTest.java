import java.lang.reflect.Field;
import java.lang.reflect.Method;
import java.lang.reflect.Modifier;
import java.nio.file.Files;
import java.nio.file.Path;
import java.util.ArrayList;
import java.util.List;
import java.util.Set;
import java.util.TreeSet;
import java.util.regex.Matcher;
import java.util.regex.Pattern;

/** Those rules of LANGUAGE.md that can be seen from the text of the class and its members. */
public final class LanguageTest {
    private static final String FACE = "answer/1 age/2 as/2 ask/2 back/0 block/2 blocks/0 bound/0 check/0 clear/0 copy/5 "
            + "count/1 edge/2 edges/0 factor/1 feed/3 fits/0 is/1 item/2 keep/0 lay/3 lock/2 locks/2 machine/0 mark/3 "
            + "may/2 memory/2 order/4 places/2 pour/4 proves/0 ran/1 record/0 run/1 shared/2 shares/1 sheet/3 shown/2 "
            + "step/2 tell/1 told/2 trim/1 turns/2 way/1 work/2";
    private static final String CONSTANTS = "BAD FULL INDEX KIND NO NONE NOTHING SIZE SPENT";
    private static final String LIBRARY = "Arrays.fill Integer.bitCount Math.max Math.min System.arraycopy";

    private static int wrong = 0;

    private static void due(boolean right, String what) {
        if (!right) {
            wrong++;
            System.out.println(what);
        }
    }

    private static String code(String source) {
        return source.replaceAll("(?s)/\\*.*?\\*/", "").replaceAll("//[^\n]*", "").replaceAll("\"[^\"\n]*\"", "\"\"");
    }

    private static void text(String source) {
        String code = code(source);
        String[] words = {"throw", "throws", "try", "catch", "finally", "synchronized", "assert", "package", "native",
                "volatile", "transient", "protected", "instanceof", "Object", "equals", "hashCode", "toString", "float",
                "double", "abstract", "Thread", "Random", "Exception", "Error", "goto", "var", "record [A-Z]"};
        for (String word : words) {
            due(!Pattern.compile("\\b" + word + "\\b").matcher(code).find(), "word: " + word);
        }
        due(!code.contains("->") && !code.contains("::"), "a lambda or a method reference");
        due(!code.contains("while (true)") && !code.contains("for (;;)"), "a loop without an end");
        Matcher imports = Pattern.compile("import ([^;]+);").matcher(code);
        while (imports.find()) {
            due(imports.group(1).equals("java.util.Arrays"), "import " + imports.group(1));
        }
        Matcher uses = Pattern.compile("\\b(Arrays|Integer|Long|Math|System|Byte|Short|Character)\\.\\w+").matcher(code);
        while (uses.find()) {
            due(Set.of(LIBRARY.split(" ")).contains(uses.group()), "library: " + uses.group());
        }
        for (int i = 0; i < source.length(); i++) {
            due(source.charAt(i) < 127, "a sign beyond 126 at " + i);
        }
    }

    private static void lengths(String source) {
        String name = "";
        int lines = 0;
        boolean inside = false;
        for (String line : source.split("\n")) {
            String start = line.replaceAll("^ +", "");
            int depth = line.length() - start.length();
            if (!inside && (depth == 4 || depth == 8) && line.endsWith(") {") && !start.startsWith("if")
                    && !start.startsWith("for")) {
                inside = true;
                name = start;
                lines = 0;
            }
            lines++;
            if (inside && start.equals("}") && depth == depthOf(source, name)) {
                inside = false;
                due(lines <= 60, name + " has " + lines + " lines");
            }
            due(line.length() <= 130, "a long line: " + line);
        }
    }

    private static int depthOf(String source, String start) {
        int at = source.indexOf(start);
        return at - source.lastIndexOf('\n', at) - 1;
    }

    private static void face() {
        Set<String> shown = new TreeSet<>();
        Set<String> names = new TreeSet<>();
        for (Method m : TickBound.class.getDeclaredMethods()) {
            if (Modifier.isPublic(m.getModifiers())) {
                shown.add(m.getName() + "/" + m.getParameterCount());
                names.add(m.getName());
                due(m.getReturnType() == int.class, m + " answers no int");
            } else {
                due(Modifier.isPrivate(m.getModifiers()), m + " can be seen");
            }
        }
        due(shown.equals(new TreeSet<>(List.of(FACE.split(" ")))), "the face is " + shown);
        Set<String> constants = new TreeSet<>();
        for (Field f : TickBound.class.getDeclaredFields()) {
            if (Modifier.isPublic(f.getModifiers())) {
                constants.add(f.getName());
            } else {
                due(Modifier.isPrivate(f.getModifiers()), f + " can be seen");
            }
        }
        due(constants.equals(new TreeSet<>(List.of(CONSTANTS.split(" ")))), "the constants are " + constants);
        due(TickBound.class.getDeclaredConstructors().length == 1, "constructors");
        due(Modifier.isFinal(TickBound.class.getModifiers()), "it is not final");
        for (Class<?> c : TickBound.class.getDeclaredClasses()) {
            for (Method m : c.getDeclaredMethods()) {
                due(!names.contains(m.getName()), m + " bears a name of the face");
            }
        }
        for (Method m : TickBound.class.getDeclaredMethods()) {
            due(Modifier.isPublic(m.getModifiers()) || !names.contains(m.getName()), m + " bears a name of the face");
        }
    }

    private static void classes() {
        List<Class<?>> all = new ArrayList<>(List.of(TickBound.class.getDeclaredClasses()));
        all.add(TickBound.class);
        due(all.size() <= 12, all.size() + " classes");
        for (Class<?> c : all) {
            due(c == TickBound.class || Modifier.isStatic(c.getModifiers()), c + " is not static");
            due(c.getDeclaredClasses().length == 0 || c == TickBound.class, c + " has classes inside");
            int fields = 0;
            for (Field f : c.getDeclaredFields()) {
                if (Modifier.isStatic(f.getModifiers())) {
                    due(Modifier.isFinal(f.getModifiers()), f + " is static, not final");
                    due(f.getType() == int.class || f.getType() == int[].class, f + " is a static of another type");
                } else {
                    fields++;
                }
            }
            due(fields <= 20, c + " has " + fields + " fields");
            for (Method m : c.getDeclaredMethods()) {
                due(m.getParameterCount() <= 7, m + " has too many parameters");
            }
        }
    }

    public static void main(String[] args) throws Exception {
        String source = Files.readString(Path.of(args.length > 0 ? args[0] : "src/main/java/TickBound.java"));
        text(source);
        lengths(source);
        face();
        classes();
        System.out.println(wrong == 0 ? "the language is kept to" : wrong + " things are outside the language");
        if (wrong != 0) {
            System.exit(1);
        }
    }
}
