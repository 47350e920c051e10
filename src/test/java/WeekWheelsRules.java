import java.io.IOException;
import java.lang.management.ManagementFactory;
import java.lang.reflect.Constructor;
import java.lang.reflect.Field;
import java.lang.reflect.Method;
import java.lang.reflect.Modifier;
import java.nio.charset.StandardCharsets;
import java.nio.file.Files;
import java.nio.file.Path;
import java.util.Arrays;
import java.util.List;
import java.util.Set;
import java.util.TreeSet;
import java.util.regex.Matcher;
import java.util.regex.Pattern;
import java.util.stream.Collectors;

/** The document's face and rules of LANGUAGE.md that can be looked at from outside. */
public final class WeekWheelsRules {
    static final String FACE = "int feed(int,int,int,int,int)|int calendar(int) A|int wish(int) A|int fault()|int told(int) A"
            + "|int law(int,int) N A|int slip(int,int) N|int turn(int,int,int) N A|int turned(int) I|int holds(int) I"
            + "|int inHouse(int,int) I N|int clashes(int) I|boolean such(int) I|int next(int) I|int never(int) A|int together(int) A"
            + "|int most(int) A|int count(int) A|int row(int,int) I A|int free(int,int,int) A|int meeting(int) A|long weeks(long,int) A"
            + "|int seen(int,int,boolean) N A|int fits(int) A|int look(int) A|int did(int,int,int,boolean) I N|int slipped(int,int) N A"
            + "|int forget()|int right(int) A|int work(int,int) A|int done(int,int) I N|int begun(int,int) I N|int soonest(int,int) I A"
            + "|int rest()|int thief(int,int) N A|int guard(int,int) N A|int trade(int,int) A|int market(int,int,int) I A|int image()"
            + "|int restore()|int status(int)|int sums(int)";
    static final Set<String> LIBRARY = Set.of("Math.max", "Math.min", "Integer.bitCount", "Long.bitCount", "System.arraycopy");
    static int wrong = 0;

    public static void main(String[] args) throws IOException {
        face();
        members(WeekWheels.class);
        for (Class<?> inside : WeekWheels.class.getDeclaredClasses()) {
            inside(inside);
        }
        source();
        room();
        System.out.println(wrong == 0 ? "the face and the rules are kept" : wrong + " rules are broken");
        if (wrong != 0) {
            System.exit(1);
        }
    }

    static void rule(boolean kept, String rule) {
        if (!kept) {
            wrong++;
            System.out.println("broken: " + rule);
        }
    }

    static String told(Method m) {
        StringBuilder out = new StringBuilder(m.getReturnType() + " " + m.getName() + "(");
        out.append(Arrays.stream(m.getParameterTypes()).map(Class::getName).collect(Collectors.joining(","))).append(")");
        for (Class<?> thrown : m.getExceptionTypes()) {
            out.append(' ').append(thrown.getSimpleName().equals("IllegalArgumentException") ? 'A' : thrown.getSimpleName().charAt(0));
        }
        return out.toString();
    }

    static void face() {
        Set<String> got = new TreeSet<>();
        for (Method m : WeekWheels.class.getDeclaredMethods()) {
            if (!Modifier.isPrivate(m.getModifiers())) {
                got.add(told(m));
                rule(Modifier.isPublic(m.getModifiers()) && !Modifier.isStatic(m.getModifiers()), "public: " + m);
            }
        }
        Set<String> due = new TreeSet<>(List.of(FACE.split("\\|")));
        rule(got.equals(due), "the face: " + got);
        rule(due.size() == 42, "42 methods");
        int open = 0;
        for (Field f : WeekWheels.class.getDeclaredFields()) {
            open += Modifier.isPrivate(f.getModifiers()) ? 0 : 1;
        }
        rule(open == 1 && WeekWheels.NONE == -1, "NONE is the one open field");
        Constructor<?>[] made = WeekWheels.class.getDeclaredConstructors();
        rule(made.length == 1 && Modifier.isPublic(made[0].getModifiers()) && made[0].getParameterCount() == 0, "the constructor");
        rule(Modifier.isFinal(WeekWheels.class.getModifiers()), "the class is final");
    }

    static void inside(Class<?> inside) {
        rule(!Modifier.isPublic(inside.getModifiers()) && !Modifier.isProtected(inside.getModifiers()), "private: " + inside);
        rule(Modifier.isStatic(inside.getModifiers()), "static: " + inside);
        members(inside);
    }

    static void members(Class<?> of) {
        Set<String> names = new TreeSet<>();
        for (String one : FACE.split("\\|")) {
            names.add(one.replaceAll("\\w+ (\\w+)\\(.*", "$1"));
        }
        int fields = 0;
        for (Field f : of.getDeclaredFields()) {
            boolean still = Modifier.isStatic(f.getModifiers());
            rule(!still || Modifier.isFinal(f.getModifiers()), "static fields are final: " + f);
            fields += still ? 0 : 1;
        }
        rule(fields <= 20, "some twenty fields: " + of);
        for (Method m : of.getDeclaredMethods()) {
            rule(m.getParameterCount() <= 7, "seven parameters: " + m);
            rule(of == WeekWheels.class && Modifier.isPublic(m.getModifiers()) || !names.contains(m.getName()), "a name of the face: " + m);
        }
    }

    static void source() throws IOException {
        String text = Files.readString(Path.of("src/main/java/WeekWheels.java"), StandardCharsets.UTF_8);
        String code = text.replaceAll("(?s)/\\*.*?\\*/", "").replaceAll("//[^\n]*", "").replaceAll("\"[^\"]*\"", "\"\"");
        rule(text.chars().allMatch(c -> c < 128), "plain signs alone");
        for (String no : new String[] {"->", "::", "@", "\\btry\\b", "\\bcatch\\b", "\\bfinally\\b", "\\bsynchronized\\b", "\\bassert\\b",
            "Exact\\b", "\\binstanceof\\b", "\\bstatic \\{", "\\bObject\\b", "\\bdouble\\b", "\\bfloat\\b", "\\bpackage\\b", "\\bnative\\b"}) {
            rule(!Pattern.compile(no).matcher(code).find(), "not used: " + no);
        }
        Matcher imports = Pattern.compile("import ([^;]+);").matcher(code);
        while (imports.find()) {
            rule(imports.group(1).equals("java.util.NoSuchElementException"), "import " + imports.group(1));
        }
        Matcher calls = Pattern.compile("\\b(Math|Integer|Long|System|Arrays|String|Character|Boolean)\\.(\\w+)").matcher(code);
        while (calls.find()) {
            rule(LIBRARY.contains(calls.group()), "library: " + calls.group());
        }
        rule(Pattern.compile("\\bclass\\b").matcher(code).results().count() <= 12, "twelve classes");
        methodsAreShort(code.split("\n"));
    }

    /** A method ends with the first closing bracket that stands as far in as it begins. */
    static void methodsAreShort(String[] lines) {
        for (int i = 0; i < lines.length; i++) {
            if (lines[i].matches(" +(public|private) [^=;]*\\) ?(throws [^{]*)?\\{")) {
                String end = lines[i].replaceAll("\\S.*", "") + "}";
                int last = i;
                while (last < lines.length && !lines[last].equals(end)) {
                    last++;
                }
                rule(last - i < 60, "short: " + lines[i].trim());
            }
        }
    }

    /** Calls make no objects but the exceptions that they throw. */
    static void room() {
        com.sun.management.ThreadMXBean room = (com.sun.management.ThreadMXBean) ManagementFactory.getThreadMXBean();
        long id = Thread.currentThread().getId();
        long sum = dearCalls();
        long before = room.getThreadAllocatedBytes(id);
        sum += dearCalls();
        long made = room.getThreadAllocatedBytes(id) - before;
        rule(sum != 0 && made < 40_000, "room for one object and its calls: " + made + " bytes");
    }

    static void feed(WeekWheels x, String text) {
        int word = 0;
        int[] five = new int[5];
        for (int i = 0; i < (text.length() + 19) / 20 * 20; i++) {
            word = word << 8 | (i < text.length() ? text.charAt(i) : ' ');
            five[i % 20 / 4] = word;
            if (i % 20 == 19) {
                x.feed(five[0], five[1], five[2], five[3], five[4]);
            }
        }
    }

    static long dearCalls() {
        WeekWheels x = new WeekWheels();
        long sum = 0;
        for (int i = 0; i < 6; i++) {
            feed(x, "law 16 7;law 9 2;law 5 0;law 7 3;law 3 1;law 2 1;house;house;slip 1 1 2;other 11 4;still 99999;");
            sum += x.calendar(x.sums(4));
            feed(x, "not [many 2 or many 3] and day 2 1 and town 0 and house 1 1 and law 2");
            sum += x.wish(x.sums(4)) + x.next(0) + x.next(100_000);
            sum += x.count(2) + x.most(1) + x.never(63) + x.together(63) + x.row(0, 9) + x.free(63, 0, 0) + x.meeting(63);
            sum += x.weeks(242424242423L, 2) + x.trade(63, 1) + x.market(5, 63, 1) + x.thief(0, 1) + x.guard(0, 1) + x.right(1);
            for (int k = 0; k < 8; k++) {
                sum += x.work(9 + k, 63 >> k % 3) + x.seen(k % 6, k, false) + x.did(k % 2, k % 6, k, false);
            }
            sum += x.fits(0) + x.look(0) + x.slipped(0, 2) + x.done(0, 5) + x.begun(0, 5) + x.soonest(5, 1) + x.image() + x.restore();
        }
        return sum;
    }
}
