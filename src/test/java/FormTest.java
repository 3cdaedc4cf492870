import java.io.IOException;
import java.lang.management.ManagementFactory;
import java.lang.reflect.Constructor;
import java.lang.reflect.Field;
import java.lang.reflect.Method;
import java.lang.reflect.Modifier;
import java.nio.file.Files;
import java.nio.file.Path;
import java.util.HashSet;
import java.util.Set;
import java.util.TreeSet;
import java.util.regex.Matcher;
import java.util.regex.Pattern;

/** The face of the class, rules of its language that can be read off, and the room that it takes. */
public final class FormTest {
    private static int wrong = 0;

    private static final String[] FACE = {
        "int write(int)", "int wipe()", "int fault()", "int put(int)", "int join(int,int)",
        "int meet(int,int)", "int less(int,int)", "int turn(int)", "int flip(int)",
        "int halve(int,int)", "int grow(int,int)", "int undo()", "long black(int)",
        "int look(int,int)", "int letter(int,int)", "int at(int,int,int)", "int alike(int,int)",
        "int near(int,int,int)", "int judge(int,long)", "int see(int,int)", "int unsee()",
        "int leaves(int)", "int share(int,boolean)", "int rests(int,int,int)",
        "int fades(int,int,int,boolean)", "long seed(long)", "int years(int)", "int keep(int)",
        "int again(int)", "int count(int)"};

    private static void check(boolean holds, String what) {
        if (!holds) {
            wrong++;
            System.out.println("not so: " + what);
        }
    }

    private static String told(Method method) {
        StringBuilder s = new StringBuilder(method.getReturnType().getSimpleName());
        s.append(' ').append(method.getName()).append('(');
        String comma = "";
        for (Class<?> parameter : method.getParameterTypes()) {
            s.append(comma).append(parameter.getSimpleName());
            comma = ",";
        }
        return s.append(')').toString();
    }

    private static void face() {
        check(Modifier.isFinal(QuarterWords.class.getModifiers()), "the class is final");
        Set<String> methods = new TreeSet<>();
        Set<String> names = new HashSet<>();
        for (Method method : QuarterWords.class.getDeclaredMethods()) {
            if (Modifier.isPublic(method.getModifiers())) {
                check(!Modifier.isStatic(method.getModifiers()), method + " is not static");
                methods.add(told(method));
                names.add(method.getName());
            } else {
                check(Modifier.isPrivate(method.getModifiers()), method + " is private");
            }
        }
        check(methods.equals(new TreeSet<>(java.util.Arrays.asList(FACE))), "the face: " + methods);
        for (Method method : QuarterWords.class.getDeclaredMethods()) {
            check(Modifier.isPublic(method.getModifiers()) || !names.contains(method.getName()),
                method + " bears a name of its own");
        }
        for (Class<?> inside : QuarterWords.class.getDeclaredClasses()) {
            check(Modifier.isStatic(inside.getModifiers()), inside + " is static");
            check(!Modifier.isPublic(inside.getModifiers()) && !Modifier.isProtected(inside.getModifiers()),
                inside + " is private or package-visible");
            for (Method method : inside.getDeclaredMethods()) {
                check(!names.contains(method.getName()), method + " bears a name of its own");
            }
        }
        Constructor<?>[] constructors = QuarterWords.class.getDeclaredConstructors();
        check(constructors.length == 1 && Modifier.isPublic(constructors[0].getModifiers())
            && constructors[0].getParameterCount() == 0, "one public constructor");
    }

    private static void constants() throws IllegalAccessException {
        String[] names = {"UNKNOWN", "OUTSIDE", "STATE", "FULL", "NONE"};
        int[] values = {-1, -2, -3, -4, -9};
        int found = 0;
        for (Field field : QuarterWords.class.getDeclaredFields()) {
            if (!Modifier.isPublic(field.getModifiers())) {
                check(Modifier.isPrivate(field.getModifiers()), field + " is private");
                continue;
            }
            int place = java.util.Arrays.asList(names).indexOf(field.getName());
            check(place >= 0, field + " is of the face");
            if (place >= 0) {
                check(field.getType() == int.class && field.getInt(null) == values[place]
                    && Modifier.isFinal(field.getModifiers()), names[place] + " is " + values[place]);
                found++;
            }
        }
        check(found == names.length, "all constants are there");
    }

    private static void language() throws IOException {
        Path root = Path.of(System.getProperty("project.root", "."));
        String code = Files.readString(root.resolve("src/main/java/QuarterWords.java"));
        check(code.chars().allMatch(c -> c < 128), "plain signs alone");
        String bare = code.replaceAll("(?s)/\\*.*?\\*/", "").replaceAll("//[^\n]*", "");
        String[] words = {"throw", "throws", "try", "catch", "synchronized", "assert", "package",
            "protected", "volatile", "native", "Random", "Thread", "Object", "hashCode"};
        for (String word : words) {
            check(!Pattern.compile("\\b" + word + "\\b").matcher(bare).find(), "no " + word);
        }
        check(!bare.contains("->") && !bare.contains("::"), "no lambda, no method reference");
        check(!bare.contains("Exact("), "none of the exact functions");
        library(bare);
        shortMethods(bare);
    }

    /** A name with a capital ahead of a dot is of the library, unless it is of the class itself. */
    private static void library(String bare) {
        check(!Pattern.compile("\\b(import|java|javax|sun)\\b").matcher(bare).find(), "nothing from outside");
        Set<String> listed = Set.of("Math.min", "Math.max", "Math.abs", "Long.bitCount");
        Matcher use = Pattern.compile("\\b([A-Z][a-z]\\w*)\\.(\\w+)").matcher(bare);
        while (use.find()) {
            boolean own = bare.contains("class " + use.group(1) + " ");
            check(own || listed.contains(use.group()), use.group() + " is listed by rule 4");
        }
    }

    /** Rule 5: static fields are final, of the types that it names. */
    private static void statics() {
        Set<Class<?>> types = Set.of(int.class, long.class, boolean.class, char.class, String.class,
            int[].class, long[].class, char[].class, byte[].class);
        Set<Class<?>> classes = new HashSet<>(java.util.Arrays.asList(QuarterWords.class.getDeclaredClasses()));
        check(classes.size() < 12, "at most some twelve classes");
        classes.add(QuarterWords.class);
        for (Class<?> one : classes) {
            int fields = 0;
            for (Field field : one.getDeclaredFields()) {
                boolean isStatic = Modifier.isStatic(field.getModifiers());
                fields += isStatic ? 0 : 1;
                check(!isStatic || Modifier.isFinal(field.getModifiers()) && types.contains(field.getType()),
                    field + " is a constant");
            }
            check(fields <= 20, one + " has at most some twenty fields");
        }
    }

    private static void shortMethods(String bare) {
        int length = 0;
        for (String line : bare.split("\n")) {
            boolean head = line.matches("( {4}| {8})[a-zA-Z].*\\) \\{") && !line.matches(" *(if|for|while|switch) .*");
            length = head ? 0 : length + 1;
            check(!line.matches("( {4}| {8})\\}") || length <= 60 || line.equals("    }"), "short methods");
            check(!head || line.split(",").length <= 7, "seven parameters at most: " + line);
            check(line.length() <= 120, "short lines: " + line);
        }
    }

    private static void room() {
        com.sun.management.ThreadMXBean bean =
            (com.sun.management.ThreadMXBean) ManagementFactory.getThreadMXBean();
        long thread = Thread.currentThread().getId();
        everything(new QuarterWords());
        long before = bean.getThreadAllocatedBytes(thread);
        QuarterWords q = new QuarterWords();
        for (int i = 0; i < 14; i++) {
            everything(q);
        }
        long bytes = bean.getThreadAllocatedBytes(thread) - before;
        check(bytes < 8192, "an object and its calls take little room, not " + bytes + " bytes");
    }

    private static void everything(QuarterWords q) {
        q.wipe();
        q.write('g');
        q.fault();
        q.put(0);
        q.join(1, 0);
        q.meet(1, 0);
        q.less(2, 0);
        q.turn(0);
        q.flip(0);
        q.halve(1, 1);
        q.grow(1, 1);
        q.undo();
        q.black(0);
        for (int what = 0; what < 5; what++) {
            q.look(0, what);
        }
        q.letter(0, 84);
        q.at(0, 9, 2);
        q.alike(0, 1);
        q.near(0, 1, 1);
        q.judge(4, 101_401_501_901L);
        q.see(9, 1);
        q.leaves(0);
        q.leaves(1);
        q.share(0, true);
        q.rests(0, 1, 0);
        q.fades(0, 3, 3, true);
        q.years(30);
        q.keep(1);
        q.again(1);
        q.count(2);
    }

    public static void main(String[] args) throws Exception {
        face();
        constants();
        statics();
        language();
        room();
        System.out.println(wrong == 0 ? "form: all as due" : wrong + " rules are broken");
        if (wrong != 0) {
            System.exit(1);
        }
    }
}
