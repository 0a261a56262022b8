import java.io.IOException;
import java.lang.reflect.InvocationTargetException;
import java.lang.reflect.Method;
import java.lang.reflect.Modifier;
import java.nio.file.Files;
import java.nio.file.Path;
import java.util.regex.Matcher;
import java.util.regex.Pattern;

/** The examples of README.md answer as it says, and it names every call. */
public final class ReadmeTest {
    private static final String MADE = "QuotaCarousel carousel = new QuotaCarousel();";
    private static final Pattern FED =
        Pattern.compile("for \\(char c : \"([^\"]*)\"\\.toCharArray\\(\\)\\) carousel\\.feed\\(c\\);");
    private static final Pattern CALLED = Pattern.compile("carousel\\.(\\w+)\\(([^)]*)\\); +// (-?\\d+)(: .*)?");
    private static int wrong = 0, asked = 0;

    private QuotaCarousel carousel = null;

    public static void main(String[] args) throws IOException, ReflectiveOperationException {
        String page = Files.readString(Path.of("README.md"));
        Matcher example = Pattern.compile("(?s)```java\n(.*?)```").matcher(page);
        while (example.find()) {
            ReadmeTest test = new ReadmeTest();
            for (String line : example.group(1).split("\n")) {
                test.follow(line);
            }
        }
        for (Method call : QuotaCarousel.class.getDeclaredMethods()) {
            if (Modifier.isPublic(call.getModifiers()) && !page.contains("`" + call.getName() + "`")) {
                tell("README.md doesn't name " + call.getName());
            }
        }
        if (asked < 20) {
            tell("only " + asked + " answers are shown");
        }
        System.out.println(asked + " answers of README.md looked at, " + wrong + " wrong");
        System.exit(wrong == 0 ? 0 : 1);
    }

    private static void tell(String what) {
        wrong++;
        System.out.println(what);
    }

    private void follow(String line) throws ReflectiveOperationException {
        Matcher fed = FED.matcher(line);
        Matcher called = CALLED.matcher(line);
        if (line.equals(MADE)) {
            carousel = new QuotaCarousel();
        } else if (fed.matches()) {
            for (char c : fed.group(1).toCharArray()) {
                carousel.feed(c);
            }
        } else if (called.matches()) {
            asked++;
            long got = answer(called.group(1), called.group(2).isEmpty() ? new String[0] : called.group(2).split(", "));
            if (got != Long.parseLong(called.group(3))) {
                tell(line + " answered " + got);
            }
        } else {
            tell("no example: " + line);
        }
    }

    private long answer(String name, String[] words) throws IllegalAccessException, InvocationTargetException {
        for (Method call : QuotaCarousel.class.getDeclaredMethods()) {
            if (call.getName().equals(name) && call.getParameterCount() == words.length) {
                Object[] values = new Object[words.length];
                for (int i = 0; i < words.length; i++) {
                    long value = Long.parseLong(words[i]);
                    if (call.getParameterTypes()[i] == long.class) {
                        values[i] = value;
                    } else {
                        values[i] = (int) value;
                    }
                }
                return ((Number) call.invoke(carousel, values)).longValue();
            }
        }
        tell("no call " + name + " with " + words.length + " numbers");
        return 0;
    }
}
