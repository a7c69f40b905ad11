import java.lang.reflect.Method;
import java.lang.reflect.Modifier;
import java.nio.file.Files;
import java.nio.file.Path;
import java.util.List;
import java.util.regex.Matcher;
import java.util.regex.Pattern;

/** README.md holds: its examples answer as it says behind them, and it tells of every call. */
public final class GraphNamesReadme {
    private static final Pattern CALL = Pattern.compile("x\\.(\\w+)\\((.*)\\); *// (-?\\d+|NONE|true|false)\\b.*");
    private static final Pattern READ = Pattern.compile("read\\(x, (\\d), \"(.*)\"\\); *// (-?\\d+|NONE)\\b.*");
    private static final String NEW = "GraphNames x = new GraphNames();";
    private static int wrong = 0;
    private static int asked = 0;

    public static void main(String[] args) throws Exception {
        List<String> lines = Files.readAllLines(Path.of("README.md"));
        GraphNames x = null;
        boolean java = false;
        for (String line : lines) {
            if (line.startsWith("```")) {
                java = line.equals("```java");
            } else if (java && line.equals(NEW)) {
                x = new GraphNames();
            } else if (java) {
                example(x, line);
            }
        }
        if (asked < 30) {
            fails("only " + asked + " examples were found");
        }
        tellsOfAll(String.join("\n", lines));
        System.out.println(wrong == 0 ? asked + " examples of README.md answer as it says" : wrong + " are not as README.md says");
        if (wrong != 0) {
            System.exit(1);
        }
    }

    private static void fails(String what) {
        wrong++;
        System.out.println(what);
    }

    private static void example(GraphNames x, String line) throws Exception {
        Matcher call = CALL.matcher(line);
        Matcher read = READ.matcher(line);
        String got;
        String want;
        if (call.matches()) {
            got = answer(x, call.group(1), call.group(2));
            want = call.group(3);
        } else if (read.matches()) {
            got = "" + read(x, Integer.parseInt(read.group(1)), read.group(2));
            want = read.group(3);
        } else {
            fails("not understood: " + line);
            return;
        }
        asked++;
        if (!got.equals(want.equals("NONE") ? "" + GraphNames.NONE : want)) {
            fails(line + " answered " + got);
        }
    }

    private static String answer(GraphNames x, String name, String numbers) throws Exception {
        String[] parts = numbers.isEmpty() ? new String[0] : numbers.split(", ");
        Class<?>[] types = new Class<?>[parts.length];
        Object[] values = new Object[parts.length];
        for (int i = 0; i < parts.length; i++) {
            types[i] = int.class;
            values[i] = Integer.decode(parts[i]);
        }
        return "" + GraphNames.class.getMethod(name, types).invoke(x, values);
    }

    /** As in README.md. */
    private static int read(GraphNames x, int g, String text) {
        for (int i = 0; i < text.length(); i += 20) {
            int[] w = new int[5];
            for (int j = 0; j < 20; j++) {
                w[j / 4] = w[j / 4] << 8 | (i + j < text.length() ? text.charAt(i + j) : ' ');
            }
            x.feed(w[0], w[1], w[2], w[3], w[4]);
        }
        return x.text(g, text.length());
    }

    private static void tellsOfAll(String page) {
        for (Method m : GraphNames.class.getDeclaredMethods()) {
            if (!Modifier.isPublic(m.getModifiers())) {
                continue;
            }
            String names = "(\\w+, ){" + Math.max(0, m.getParameterCount() - 1) + "}" + (m.getParameterCount() > 0 ? "\\w+" : "");
            if (!Pattern.compile("`" + m.getName() + "\\(" + names + "\\)`[,:]").matcher(page).find()) {
                fails("README.md doesn't tell of " + m.getName());
            }
        }
    }
}
