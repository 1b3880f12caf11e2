import java.io.IOException;
import java.lang.management.ManagementFactory;
import java.lang.reflect.Constructor;
import java.lang.reflect.Field;
import java.lang.reflect.Method;
import java.lang.reflect.Modifier;
import java.nio.file.Files;
import java.nio.file.Path;
import java.util.Set;
import java.util.TreeSet;
import java.util.regex.Matcher;
import java.util.regex.Pattern;

/** The public face, the part of Java that ../shared/LANGUAGE.md leaves, and the room that calls take. */
public final class FaceTest {
    private static final Due due = new Due("FaceTest");
    private static final Path SOURCE = Path.of("src/main/java/CoatsFitTheMood.java");

    private static final String[] FACE = {
        "int all(int)", "int anew(int,int,int)", "int asks(int,int,int)", "int back()", "int cell(int,int,int)",
        "long chance(int,int,int,int,int)", "int coat(int,int,int)", "int coats(int,int,int,int)",
        "int copy(int,int,int,int,int)", "int count(int)", "int day(int,int)", "int drawn(int,int)",
        "int dress(int,int)", "int feed(int)", "int film(int,int,int,int)", "int force(int)", "int image()",
        "long mean(int,int)", "int plan(int,int,int)", "int push(int,int,int)", "int pushes(int,int,int)",
        "int set(int,int,int)", "int sheet(int,int,int)", "int taken(int,int)", "int tells(int,int,int,int)",
        "int text()", "int told(int,int)", "int wear(int,int)",
    };

    public static void main(String[] args) throws IOException {
        constants();
        methods();
        fields();
        classesInside();
        wordsOfTheSource();
        sizesOfTheSource();
        room();
        due.end();
    }

    private static void yes(String what, boolean is) {
        due.is(what, is ? 1 : 0, 1);
    }

    private static void constants() {
        due.is("NONE", CoatsFitTheMood.NONE, -1);
        due.is("BAD", CoatsFitTheMood.BAD, -2);
        due.is("STATE", CoatsFitTheMood.STATE, -3);
        due.is("FULL", CoatsFitTheMood.FULL, -4);
        due.is("NO", CoatsFitTheMood.NO, -4611686018427387904L);
    }

    private static String shape(Method method) {
        StringBuilder all = new StringBuilder(method.getReturnType().getSimpleName());
        all.append(' ').append(method.getName()).append('(');
        for (Class<?> type : method.getParameterTypes()) all.append(type.getSimpleName()).append(',');
        if (method.getParameterCount() > 0) all.setLength(all.length() - 1);
        return all.append(')').toString();
    }

    private static void methods() {
        Set<String> left = new TreeSet<>(Set.of(FACE));
        Set<String> names = new TreeSet<>();
        Class<?> face = CoatsFitTheMood.class;
        yes("the class is public and final", Modifier.isPublic(face.getModifiers()) && Modifier.isFinal(face.getModifiers()));
        for (Method method : face.getDeclaredMethods()) {
            if (Modifier.isPublic(method.getModifiers())) {
                yes("the document has " + shape(method), left.remove(shape(method)));
                names.add(method.getName());
            } else {
                yes(method.getName() + " is private", Modifier.isPrivate(method.getModifiers()));
            }
        }
        yes("all of the face stands, but for " + left, left.isEmpty());
        for (Method method : face.getDeclaredMethods()) {
            if (Modifier.isPrivate(method.getModifiers())) yes("no private " + method.getName(), !names.contains(method.getName()));
            yes(method.getName() + " takes at most seven", method.getParameterCount() <= 7);
        }
        Constructor<?>[] made = face.getDeclaredConstructors();
        yes("one public constructor", made.length == 1 && Modifier.isPublic(made[0].getModifiers()) && made[0].getParameterCount() == 0);
    }

    private static void fields() {
        Set<String> seen = new TreeSet<>();
        for (Field field : CoatsFitTheMood.class.getDeclaredFields()) {
            int is = field.getModifiers();
            if (Modifier.isPublic(is)) seen.add(field.getName());
            else yes(field.getName() + " is private", Modifier.isPrivate(is));
            yes(field.getName() + ", if static, is final", !Modifier.isStatic(is) || Modifier.isFinal(is));
        }
        yes("the public constants", seen.equals(Set.of("NONE", "BAD", "STATE", "FULL", "NO")));
    }

    private static void classesInside() {
        Class<?>[] inside = CoatsFitTheMood.class.getDeclaredClasses();
        yes("twelve classes at most", inside.length < 12);
        for (Class<?> one : inside) {
            yes(one.getSimpleName() + " is static", Modifier.isStatic(one.getModifiers()));
            yes(one.getSimpleName() + " is not public", !Modifier.isPublic(one.getModifiers()));
            int own = 0;
            for (Field field : one.getDeclaredFields()) {
                if (!Modifier.isStatic(field.getModifiers())) own++;
                yes(field.getName() + ", if static, is final", !Modifier.isStatic(field.getModifiers()) || Modifier.isFinal(field.getModifiers()));
            }
            yes(one.getSimpleName() + " has at most twenty fields", own <= 20);
            for (Method method : one.getDeclaredMethods()) {
                yes(method.getName() + " takes at most seven", method.getParameterCount() <= 7);
                for (String call : FACE) yes("no other " + method.getName(), !call.contains(" " + method.getName() + "("));
            }
        }
    }

    private static String withoutComments(String source) {
        return source.replaceAll("(?s)/\\*.*?\\*/", " ").replaceAll("//[^\\n]*", " ");
    }

    private static void wordsOfTheSource() throws IOException {
        String source = Files.readString(SOURCE);
        yes("signs 1 to 127 alone", source.chars().allMatch(c -> c > 0 && c < 128));
        String code = withoutComments(source);
        String[] words = {
            "throw", "throws", "try", "catch", "finally", "synchronized", "assert", "import", "package", "native",
            "volatile", "transient", "protected", "instanceof", "hashCode", "toString", "System\\.out", "System\\.in",
            "Thread", "Random", "Object", "Exception", "Error", "NaN", "Class", "lambda", "while", "do",
        };
        for (String word : words) {
            Matcher found = Pattern.compile("(?<![A-Za-z0-9_])" + word + "(?![A-Za-z0-9_])").matcher(code);
            yes("no " + word, !found.find());
        }
        yes("no lambda", !code.contains("->"));
        yes("no method reference", !code.contains("::"));
        yes("nothing whose name ends in Exact", !code.contains("Exact("));
        Matcher library = Pattern.compile("\\b(Math|Integer|Long|System|Arrays|String)\\.([A-Za-z_]+)").matcher(code);
        Set<String> allowed = Set.of("Math.max", "Math.min", "Math.abs", "Integer.bitCount", "System.arraycopy");
        while (library.find()) yes("the library has " + library.group(), allowed.contains(library.group()));
    }

    /** Some sixty lines a method: counted from a line that opens one to the line that closes it. */
    private static void sizesOfTheSource() throws IOException {
        int opened = -1;
        String close = "";
        int number = 0;
        for (String line : Files.readAllLines(SOURCE)) {
            number++;
            yes("line " + number + " has at most 140 signs", line.length() <= 140);
            Matcher opens = Pattern.compile("^( {4}| {8})[A-Za-z].*\\) \\{$").matcher(line);
            if (opens.find() && opened < 0 && !line.trim().matches("(if|for|else|switch|while)\\b.*")) {
                opened = number;
                close = opens.group(1) + "}";
            }
            if (opened >= 0 && line.equals(close)) {
                yes("the method at line " + opened + " has at most sixty lines", number - opened < 60);
                opened = -1;
            }
        }
    }

    /** One room holds all that a run makes: a new object fills its rows, and no call makes anything. */
    private static void room() {
        com.sun.management.ThreadMXBean counter = (com.sun.management.ThreadMXBean) ManagementFactory.getThreadMXBean();
        CoatsFitTheMood first = new CoatsFitTheMood();
        dear(first);
        long start = counter.getCurrentThreadAllocatedBytes();
        CoatsFitTheMood x = new CoatsFitTheMood();
        long made = counter.getCurrentThreadAllocatedBytes();
        for (int i = 0; i < 8; i++) x.coat(i % 6, i, 10 * i);
        for (int i = 0; i < 100; i++) dear(x);
        long called = counter.getCurrentThreadAllocatedBytes();
        yes("a new object takes less than 100,000 bytes: " + (made - start), made - start < 100_000);
        yes("calls take next to none: " + (called - made), called - made < 100_000);
    }

    private static void dear(CoatsFitTheMood x) {
        x.pushes(0, 7, 0);
        x.chance(1, 10, 0, 500, 0);
        x.film(0, 0, 0, 40);
        for (int what = 0; what <= 8; what++) x.tells(0, 0, 0, what);
        x.dress(1, 0);
        x.wear(1, 0);
        x.day(0, 0);
        x.day(0, 33);
        x.anew(0, 0, 0);
        x.all(0);
        x.image();
        x.feed('e');
        x.text();
        x.sheet(2, 2, 40);
        x.coats(2, 2, 0, 8);
        x.back();
    }
}
