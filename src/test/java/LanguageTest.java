import java.io.IOException;
import java.lang.reflect.Constructor;
import java.lang.reflect.Field;
import java.lang.reflect.Method;
import java.lang.reflect.Modifier;
import java.nio.file.Files;
import java.nio.file.Path;
import java.util.Arrays;
import java.util.Set;
import java.util.TreeSet;
import java.util.regex.Matcher;
import java.util.regex.Pattern;

/** The document's face, and of ../shared/LANGUAGE.md what can be seen from the class and its text. */
public final class LanguageTest {
    private static final String FACE = "int unit(int,int,int,int) int odds(int,int,int,int) int set(int,int,int) "
        + "int mark(int,int) long of(int,int) long fraction(int,int,int) int order(int) int at(int) int swap(int,int) "
        + "int common(int) int parts(int) int size(int) int chosen(int) int run(int,int) long joint(int,int,int) "
        + "long joints(int,int) int fair(int) long estimate(int,int) long mean(int) long spread(int) "
        + "int twice(int,int) long both(int,int,int) long kept(int,int,int) long overlap(int,int) int shift(int) "
        + "int replaced(int,int) int substitute(int,int,int) long finals(int,int,int) int drawn(int,int,long) "
        + "int feed(int) int tells() int reason(int) int list(int,int) int put(int,int,long) long look(int,int) "
        + "int judge(int,int) int image() int undo() int count(int)";
    private static final String CONSTANTS = "NONE=-1 BAD=-2 STATE=-3 FULL=-4 NOT=-5 OVER=-7";
    private static final Path SOURCE = Path.of("src/main/java/QuotaCarousel.java");
    private static int wrong = 0;

    public static void main(String[] args) throws IOException, IllegalAccessException {
        face();
        classes();
        String code = withoutCommentsAndTexts(Files.readString(SOURCE));
        words(code);
        objects(code);
        lengths(code);
        System.out.println(wrong == 0 ? "the rules that can be seen are kept" : wrong + " rules broken");
        System.exit(wrong == 0 ? 0 : 1);
    }

    private static void need(boolean holds, String what) {
        if (!holds) {
            wrong++;
            System.out.println(what);
        }
    }

    private static void face() throws IllegalAccessException {
        Class<?> c = QuotaCarousel.class;
        need(Modifier.isPublic(c.getModifiers()) && Modifier.isFinal(c.getModifiers()), "1: not public and final");
        Constructor<?>[] constructors = c.getDeclaredConstructors();
        need(constructors.length == 1 && Modifier.isPublic(constructors[0].getModifiers())
            && constructors[0].getParameterCount() == 0, "1: constructors");
        Set<String> due = new TreeSet<>(Arrays.asList(FACE.split(" (?=int |long )")));
        Set<String> found = new TreeSet<>(), open = new TreeSet<>(), hidden = new TreeSet<>();
        for (Method m : c.getDeclaredMethods()) {
            String types = Arrays.toString(m.getParameterTypes()).replaceAll("[\\[\\] ]", "");
            if (Modifier.isPrivate(m.getModifiers())) {
                hidden.add(m.getName());
            } else {
                found.add(m.getReturnType() + " " + m.getName() + "(" + types + ")");
                open.add(m.getName());
            }
            need(!m.isSynthetic(), "2: a lambda or a bridge, " + m.getName());
            need(m.getParameterCount() <= 7, "11: too many parameters, " + m.getName());
        }
        need(found.equals(due), "1: the face is " + found);
        hidden.retainAll(open);
        need(hidden.isEmpty(), "1: private methods bear public names, " + hidden);
        StringBuilder constants = new StringBuilder();
        for (Field f : c.getDeclaredFields()) {
            if (!Modifier.isPrivate(f.getModifiers())) {
                need(Modifier.isStatic(f.getModifiers()) && Modifier.isPublic(f.getModifiers()), "1: " + f.getName());
                constants.append(f.getName()).append('=').append(f.getInt(null)).append(' ');
            }
            need(!Modifier.isStatic(f.getModifiers()) || Modifier.isFinal(f.getModifiers()), "5: " + f.getName());
        }
        need(constants.toString().trim().equals(CONSTANTS), "1: the constants are " + constants);
    }

    private static void classes() {
        Class<?>[] inside = QuotaCarousel.class.getDeclaredClasses();
        need(inside.length < 12, "11: too many classes");
        for (Class<?> c : inside) {
            int m = c.getModifiers();
            need(Modifier.isStatic(m) && !Modifier.isPublic(m) && !Modifier.isProtected(m), "2: " + c.getName());
            int fields = 0;
            for (Field f : c.getDeclaredFields()) {
                fields += Modifier.isStatic(f.getModifiers()) ? 0 : 1;
                need(!Modifier.isStatic(f.getModifiers()) || Modifier.isFinal(f.getModifiers()), "5: " + f.getName());
            }
            need(fields <= 20, "11: too many fields in " + c.getName());
            for (Method method : c.getDeclaredMethods()) {
                need(!FACE.contains(" " + method.getName() + "("), "1: a public name inside, " + method.getName());
                need(!method.isSynthetic(), "2: a lambda or a bridge, " + method.getName());
            }
        }
    }

    private static String withoutCommentsAndTexts(String source) {
        for (int i = 0; i < source.length(); i++) {
            need(source.charAt(i) < 128, "4: a sign beyond 127 at " + i);
        }
        Matcher m = Pattern.compile("(?s)/\\*.*?\\*/|//[^\n]*|\"[^\"\n]*\"|'[^'\n]*'").matcher(source);
        return m.replaceAll(found -> found.group().replaceAll("[^\n]", "").concat(
            found.group().charAt(0) == '"' ? "\"\"" : found.group().charAt(0) == '\'' ? "0" : ""));
    }

    private static void words(String code) {
        String[] banned = {"throw", "throws", "try", "catch", "synchronized", "assert", "import", "package", "double",
            "float", "Object", "Exception", "hashCode", "toString", "System\\.(?!arraycopy)\\w+", "Thread", "var",
            "protected", "volatile", "native", "\\w+Exact", "yield", "record", "java"};
        for (String word : banned) {
            need(!Pattern.compile("\\b" + word + "\\b").matcher(code).find(), "banned: " + word);
        }
        need(!code.contains("->") && !code.contains("::"), "2: a lambda or a method reference");
        Matcher library = Pattern.compile("\\b(Math|Integer|Long)\\.(\\w+)").matcher(code);
        Set<String> known = Set.of("min", "max", "abs", "floorMod", "floorDiv", "bitCount", "compare");
        while (library.find()) {
            need(known.contains(library.group(2)), "4: " + library.group());
        }
    }

    /** Rows are made with the object: 'new' stands in fields and in the constructor's one loop alone. */
    private static void objects(String code) {
        for (String line : code.split("\n")) {
            boolean field = line.matches("\\s+(private )?final .*");
            need(!line.contains("new ") || field || line.trim().equals("rows[i] = new Row();"), "12: " + line.trim());
        }
    }

    private static void lengths(String code) {
        String[] lines = code.split("\n");
        int from = 0;
        for (int i = 0; i < lines.length; i++) {
            need(lines[i].length() <= 120, "a long line, " + (i + 1));
            from = lines[i].matches("( {4}){1,2}\\S.*\\) \\{") ? i : from;
            boolean ends = lines[i].matches("( {4}){1,2}\\}");
            need(!ends || i - from < 60 || lines[i].matches(" {4}\\}") , "11: a long method from line " + (from + 1));
        }
    }
}
