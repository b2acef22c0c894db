import java.io.IOException;
import java.lang.reflect.Method;
import java.lang.reflect.Modifier;
import java.nio.file.Files;
import java.nio.file.Path;
import java.util.ArrayList;
import java.util.List;
import java.util.regex.Matcher;
import java.util.regex.Pattern;
import java.util.stream.Stream;

/** What README.md shows is so, and it names every call of the class and every test. */
final class ReadmeTest {
    private static final Due DUE = new Due();
    /** A line of the example: the call, and what stands behind // up to a remark. */
    private static final Pattern SHOWN = Pattern.compile("(?m)^(x\\..*?);\\s*// ([^:;,\\n]+)");
    private static final Pattern TOLD = Pattern.compile("(?m)^tell\\(x, \"(.*)\"\\);$");

    private static final List<String> LIVED = new ArrayList<>();

    private ReadmeTest() {
    }

    public static void main(String[] args) throws IOException {
        String readme = Files.readString(Path.of("README.md"));
        List<String> told = new ArrayList<>();
        Matcher tells = TOLD.matcher(readme);
        while (tells.find()) {
            told.add(tells.group(1));
        }
        DUE.is("texts told", told.size(), 5);
        if (told.size() == 5) {
            example(told);
            shows(readme);
        }
        namesAll(readme);
        DUE.end();
    }

    private static void example(List<String> told) {
        CashBalls x = new CashBalls();
        tell(x, told.get(0));
        tell(x, told.get(1));
        tell(x, told.get(2));
        lived("x.shop()", x.shop());
        lived("x.falls(1)", x.falls(1));
        lived("x.trip(0)", x.trip(0));
        lived("x.send(0)", x.send(0));
        lived("x.set(0, 3)", x.set(0, 3));
        lived("x.day()", x.day());
        lived("x.ball(0, 3)", x.ball(0, 3));
        lived("x.count(8)", x.count(8));
        lived("x.ball(1, 1)", x.ball(1, 1));
        lived("x.undo()", x.undo());
        lived("x.undo()", x.undo());
        lived("x.rest()", x.rest());
        lived("x.first()", x.first());
        lived("x.stray(1)", x.stray(1));
        lived("x.mark(0, false)", x.mark(0, false));
        tell(x, told.get(3));
        lived("x.run()", x.run());
        lived("x.judged(0)", x.judged(0));
        lived("x.mark(0, true)", x.mark(0, true));
        DUE.is("lines of the run, gone back to the mark", x.count(10), 0);
        tell(x, told.get(4));
        lived("x.shop()", x.shop());
        DUE.is("counters of the shop, which stays", x.count(0), 2);
    }

    private static void lived(String call, Object answer) {
        LIVED.add(call + " " + answer);
    }

    private static void shows(String readme) {
        Matcher shown = SHOWN.matcher(readme);
        for (String line : LIVED) {
            boolean there = shown.find();
            String wanted = there ? shown.group(1) + " " + shown.group(2).trim() : "nothing";
            if (!line.equals(wanted)) {
                System.out.println("lived \"" + line + "\", README.md shows \"" + wanted + "\"");
            }
            DUE.is("README.md shows " + line, line.equals(wanted), true);
        }
        DUE.is("README.md shows more", shown.find(), false);
    }

    private static void namesAll(String readme) throws IOException {
        for (Method method : CashBalls.class.getDeclaredMethods()) {
            if (Modifier.isPublic(method.getModifiers())) {
                String name = method.getName();
                DUE.is("README.md names " + name, readme.contains("`" + name + "`") || readme.contains("`" + name + "()`"),
                    true);
            }
        }
        try (Stream<Path> files = Files.list(Path.of("src", "test", "java"))) {
            for (Path file : (Iterable<Path>) files::iterator) {
                String name = file.getFileName().toString().replace(".java", "");
                DUE.is("README.md names " + name, !name.endsWith("Test") || readme.contains("`" + name + "`"), true);
            }
        }
    }

    /** As README.md has it: its helper feeds a text by one long at a time. */
    private static void tell(CashBalls x, String text) {
        for (int i = 0; i < text.length(); i += 8) {
            long eight = 0;
            for (int j = i; j < i + 8; j++) {
                eight = eight << 8 | (j < text.length() ? text.charAt(j) : 0);
            }
            x.feed(eight, 0, 0);
        }
    }
}
