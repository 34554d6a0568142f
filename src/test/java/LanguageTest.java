import java.lang.reflect.Constructor;
import java.lang.reflect.Field;
import java.lang.reflect.Method;
import java.lang.reflect.Modifier;
import java.nio.file.Files;
import java.nio.file.Path;
import java.util.List;
import java.util.TreeSet;
import java.util.regex.Matcher;
import java.util.regex.Pattern;

/** The face of the class as the document tells it, and the rules of LANGUAGE.md that can be seen from outside. */
public final class LanguageTest {
    private static final Path SOURCE = Path.of("src/main/java/TheAngelsWantMore.java");
    private static final List<String> FACE = List.of("int letter 1", "int town 0", "int cask 2", "int set 2", "int fill 2",
            "int takes 3", "int pour 3", "int years 1", "int behind 3", "int allBehind 2", "long theirs 3", "int excise 1",
            "int exciseIn 1", "int low 2", "int turns 0", "int hum 1", "int pourFor 2", "int blend 1", "int spread 0",
            "int layDown 1", "int sell 1", "int treaty 1", "int bestSet 2", "int iron 1", "int row 1", "int which 2",
            "int judge 1", "long chance 5", "int lots 3", "int image 0", "int on 0", "int count 1");
    private static final String LETTERS = "r10;y01;p01001;";
    private static int wrong = 0;

    public static void main(String[] args) throws Exception {
        face();
        members();
        source();
        noObjectsInCalls();
        System.out.println(wrong == 0 ? "the face and the rules are kept" : wrong + " rules are broken");
        if (wrong != 0) {
            System.exit(1);
        }
    }

    private static void must(boolean so, String rule) {
        if (!so) {
            wrong++;
            System.out.println("not so: " + rule);
        }
    }

    private static void face() {
        Class<?> c = TheAngelsWantMore.class;
        must(c.getModifiers() == (Modifier.PUBLIC | Modifier.FINAL), "the class is public and final");
        TreeSet<String> calls = new TreeSet<>();
        TreeSet<String> names = new TreeSet<>();
        for (Method m : c.getDeclaredMethods()) {
            if (Modifier.isPublic(m.getModifiers())) {
                calls.add(m.getReturnType() + " " + m.getName() + " " + m.getParameterCount());
                names.add(m.getName());
                must(!Modifier.isStatic(m.getModifiers()), m.getName() + " is no static method");
                for (Class<?> type : m.getParameterTypes()) {
                    must(type == int.class, m.getName() + " takes ints");
                }
            }
        }
        must(calls.equals(new TreeSet<>(FACE)), "the calls are the document's, but are " + calls);
        for (Method m : c.getDeclaredMethods()) {
            if (!Modifier.isPublic(m.getModifiers())) {
                must(Modifier.isPrivate(m.getModifiers()) && !names.contains(m.getName()), m + " is private, its name its own");
            }
        }
        Constructor<?>[] made = c.getDeclaredConstructors();
        must(made.length == 1 && Modifier.isPublic(made[0].getModifiers()) && made[0].getParameterCount() == 0, "one constructor");
    }

    private static void members() {
        Class<?>[] inside = TheAngelsWantMore.class.getDeclaredClasses();
        must(inside.length <= 11, "twelve classes at most");
        for (Field f : TheAngelsWantMore.class.getDeclaredFields()) {
            must(Modifier.isPrivate(f.getModifiers()), f.getName() + " is private");
            must(!Modifier.isStatic(f.getModifiers()) || Modifier.isFinal(f.getModifiers()), f.getName() + " is final if static");
        }
        for (Class<?> c : inside) {
            must(Modifier.isStatic(c.getModifiers()) && !Modifier.isPublic(c.getModifiers()), c.getSimpleName() + " is static");
            int fields = 0;
            for (Field f : c.getDeclaredFields()) {
                must(!Modifier.isStatic(f.getModifiers()) || Modifier.isFinal(f.getModifiers()), f + " is final if static");
                fields += Modifier.isStatic(f.getModifiers()) ? 0 : 1;
            }
            must(fields <= 20, c.getSimpleName() + " has twenty fields at most");
        }
    }

    private static void source() throws Exception {
        String text = Files.readString(SOURCE);
        must(text.chars().allMatch(c -> c < 127), "signs below 127 alone");
        String code = text.replaceAll("(?s)/\\*.*?\\*/", " ").replaceAll("//[^\n]*", " ")
                .replaceAll("\"(\\\\.|[^\"\\\\])*\"", "\"\"").replaceAll("'(\\\\.|[^'\\\\])'", "' '");
        for (String word : List.of("throw", "throws", "try", "catch", "finally", "synchronized", "assert", "import", "package",
                "instanceof", "protected", "native", "volatile", "System", "Thread", "Object", "toString", "hashCode", "equals",
                "values", "double", "float")) {
            must(!Pattern.compile("\\b" + word + "\\b").matcher(code).find(), "no " + word);
        }
        for (String sign : List.of("->", "::", "@", "Exact(", "static {")) {
            must(!code.contains(sign), "no " + sign);
        }
        must(!code.contains("\"\" +") && !code.contains("+ \"\""), "no texts joined by +");
        int lines = 0;
        for (String line : text.split("\n")) {
            must(line.length() <= 120, "lines of 120 signs at most: " + line);
            lines = line.matches(" {4,8}\\S.*[({,]") ? 0 : lines + 1;
            must(lines <= 60, "methods of 60 lines at most, about: " + line);
        }
        Matcher heads = Pattern.compile("\\w+\\s+\\w+\\(((?:int|long|boolean|char|String|Cask|Town)[^()]*)\\)\\s*\\{").matcher(code);
        while (heads.find()) {
            must(heads.group(1).split(",").length <= 7, "seven parameters at most: " + heads.group());
        }
    }

    /** All calls of a run live in one room: whatever is called, nothing new is made but in the constructor. */
    private static void noObjectsInCalls() {
        com.sun.management.ThreadMXBean bean =
                (com.sun.management.ThreadMXBean) java.lang.management.ManagementFactory.getThreadMXBean();
        TheAngelsWantMore[] towns = new TheAngelsWantMore[50];
        for (int i = 0; i < towns.length; i++) {
            towns[i] = Due.townOf("co100100500;cm100090600;cb090030404;ci050000990;cs100040502;ch120120205;e7;y09;");
            everyCall(towns[i]);
        }
        long id = Thread.currentThread().getId();
        bean.getThreadAllocatedBytes(id);
        long before = bean.getThreadAllocatedBytes(id);
        for (int i = 0; i < towns.length; i++) {
            everyCall(towns[i]);
        }
        long made = bean.getThreadAllocatedBytes(id) - before;
        must(made < 1000, "calls make no objects, but " + made + " bytes were made");
    }

    private static void everyCall(TheAngelsWantMore x) {
        for (int i = 0; i < LETTERS.length(); i++) {
            x.letter(LETTERS.charAt(i));
        }
        x.town();
        x.cask(0, 0);
        x.set(0, 10);
        x.fill(0, 50);
        x.takes(0, 50, 10);
        x.pour(0, 1, 1);
        x.years(1);
        x.behind(0, 20, 0);
        x.allBehind(20, 0);
        x.theirs(-1, 20, 0);
        x.excise(-1);
        x.exciseIn(20);
        x.low(0, 0);
        x.turns();
        x.hum(0);
        x.pourFor(0, 50);
        x.blend(50);
        x.spread();
        x.layDown(20);
        x.sell(20);
        x.treaty(20);
        x.bestSet(20, 0);
        x.bestSet(20, 1);
        x.iron(20);
        x.row(50);
        x.which(0, 0);
        x.which(0, 1);
        x.judge(0);
        x.chance(0, 50, 8, 20, 0);
        x.lots(20, 5, 0);
        x.image();
        x.on();
        x.count(5);
    }
}
