import java.io.IOException;
import java.lang.management.ManagementFactory;
import java.lang.reflect.Constructor;
import java.lang.reflect.Field;
import java.lang.reflect.Method;
import java.lang.reflect.Modifier;
import java.nio.file.Files;
import java.nio.file.Path;
import java.util.Arrays;
import java.util.TreeSet;

/** The document's face, some of the rules of LANGUAGE.md, and the room that calls take. */
public final class LanguageTest {
    private static final int MOST_PARAMETERS = 7;
    private static final int MOST_CLASSES = 12;
    private static final int MOST_LINES = 60;
    private static final Check CHECK = new Check();
    private static final String[] FACE = {
        "int load()", "int draw(boolean)", "int drop(int) NoSuchElementException",
        "int knock(int) NoSuchElementException", "int deal()", "int set(boolean,int) IllegalArgumentException",
        "int undo()", "int keep(int) IllegalArgumentException",
        "int restore(int) IllegalArgumentException,IllegalStateException", "int append(int,int,int,int,int)",
        "int truncate(int) IllegalArgumentException", "int match(int) IllegalArgumentException", "long number()",
        "int player(int,int) IllegalArgumentException", "int card(int,int) IllegalArgumentException",
        "int where(int) IllegalArgumentException",
        "int meldOf(int,int) IllegalArgumentException,NoSuchElementException",
        "int meld(int,int,int) IllegalArgumentException", "int restWithout(int) NoSuchElementException",
        "int bestDrop()", "int restByPile()", "int helping(int) IllegalArgumentException",
        "int ifKnock(int,int) NoSuchElementException,IllegalArgumentException", "int needed()",
        "int kind(long) IllegalArgumentException", "int gap()", "double meanRest()",
        "float laid(int) IllegalArgumentException", "int writeLaying(int) IllegalArgumentException",
        "int reportByte(int)",
    };

    private LanguageTest() {
    }

    public static void main(String[] args) throws IOException {
        face();
        constants();
        members();
        source();
        room();
        CHECK.end("LanguageTest");
    }

    private static String names(Class<?>[] types) {
        StringBuilder names = new StringBuilder();
        for (Class<?> type : types) {
            names.append(names.length() > 0 ? "," : "").append(type.getSimpleName());
        }
        return names.toString();
    }

    private static void face() {
        TreeSet<String> found = new TreeSet<>();
        for (Method method : WrapRuns.class.getDeclaredMethods()) {
            if (Modifier.isPublic(method.getModifiers())) {
                String throwing = names(method.getExceptionTypes());
                found.add(method.getReturnType() + " " + method.getName() + "(" + names(method.getParameterTypes())
                        + ")" + (throwing.isEmpty() ? "" : " " + throwing));
                CHECK.isTrue(method + " is of the object", !Modifier.isStatic(method.getModifiers()));
            }
        }
        CHECK.same("face", found.toString(), new TreeSet<>(Arrays.asList(FACE)).toString());
        CHECK.isTrue("final", Modifier.isFinal(WrapRuns.class.getModifiers()));
        Constructor<?>[] constructors = WrapRuns.class.getDeclaredConstructors();
        CHECK.same("constructors", constructors.length, 1);
        CHECK.isTrue("public constructor", Modifier.isPublic(constructors[0].getModifiers()));
    }

    private static void constants() {
        CHECK.same("NONE", WrapRuns.NONE, -1);
        CHECK.same("NO_ROOM", WrapRuns.NO_ROOM, -20);
    }

    private static void members() {
        for (Field field : WrapRuns.class.getDeclaredFields()) {
            boolean isOfTheFace = field.getName().equals("NONE") || field.getName().equals("NO_ROOM");
            CHECK.isTrue(field + " is private", isOfTheFace || Modifier.isPrivate(field.getModifiers()));
        }
        for (Method method : WrapRuns.class.getDeclaredMethods()) {
            boolean isPublic = Modifier.isPublic(method.getModifiers());
            CHECK.isTrue(method + " is private", isPublic || Modifier.isPrivate(method.getModifiers()));
            CHECK.isTrue(method + " has a name of its own", isPublic || !isNamedAsTheFace(method));
            CHECK.isTrue(method + " has few parameters", method.getParameterCount() <= MOST_PARAMETERS);
        }
        CHECK.isTrue("twelve classes at most", WrapRuns.class.getDeclaredClasses().length < MOST_CLASSES);
        for (Class<?> inside : WrapRuns.class.getDeclaredClasses()) {
            CHECK.isTrue(inside + " is static", Modifier.isStatic(inside.getModifiers()));
            int fields = 0;
            for (Field field : inside.getDeclaredFields()) {
                fields += Modifier.isStatic(field.getModifiers()) ? 0 : 1;
            }
            CHECK.isTrue(inside + " has twenty fields at most", fields <= 20);
            for (Method method : inside.getDeclaredMethods()) {
                CHECK.isTrue(method + " has a name of its own", !isNamedAsTheFace(method));
                CHECK.isTrue(method + " has few parameters", method.getParameterCount() <= MOST_PARAMETERS);
            }
        }
    }

    private static boolean isNamedAsTheFace(Method method) {
        for (String call : FACE) {
            if (call.matches("\\w+ " + method.getName() + "\\(.*")) {
                return true;
            }
        }
        return false;
    }

    private static void source() throws IOException {
        String source = Files.readString(Path.of("src/main/java/WrapRuns.java"));
        String code = source.replaceAll("(?s)/\\*.*?\\*/", "").replaceAll("//[^\n]*", "");
        String[] barred = {"->", "::", "catch", "finally", "synchronized", "assert", "Exact(", "package ", "Object",
            "Override", "getClass", "hashCode", "toString", "instanceof", "static {", "@"};
        for (String sign : barred) {
            CHECK.isTrue("the class does without " + sign, !code.contains(sign));
        }
        CHECK.same("imports", code.split("import ", -1).length - 1, 1);
        lengths(source.split("\n"));
    }

    /** A method's last line is the first brace behind its head that stands as far in as the head does. */
    private static void lengths(String[] lines) {
        int methods = 0;
        for (int head = 0; head < lines.length; head++) {
            if (lines[head].matches("( {4}| {8})(?!if |for |while |switch )[a-z].*\\(.*\\{")) {
                String end = lines[head].replaceFirst("[a-z].*", "") + "}";
                int last = head;
                while (last < lines.length - 1 && !lines[last].equals(end)) {
                    last++;
                }
                methods++;
                CHECK.isTrue(lines[head].trim() + " is short", last - head < MOST_LINES);
            }
        }
        CHECK.isTrue("the methods are found: " + methods, methods > FACE.length);
    }

    private static long bytesTaken() {
        return ((com.sun.management.ThreadMXBean) ManagementFactory.getThreadMXBean())
                .getThreadAllocatedBytes(Thread.currentThread().getId());
    }

    private static int askAll(WrapRuns runs) {
        int sum = runs.helping(0) + runs.helping(1) + runs.bestDrop() + runs.needed() + runs.restByPile();
        sum += runs.writeLaying(0) + runs.gap() + (int) runs.meanRest() + (int) runs.laid(0);
        sum += runs.ifKnock(runs.card(runs.match(4), 0), 2) + runs.player(1, 7) + runs.meld(0, 0, 3);
        sum += runs.kind(7) + runs.append(0x63617264, 0x73203120, 0x37203130, 0x20313030, 0x3b202020);
        sum += runs.load() + runs.keep(0) + runs.restore(0) + runs.set(false, 3);
        return sum + runs.draw(true) + runs.bestDrop() + runs.drop(runs.bestDrop()) + runs.undo();
    }

    /** No call makes objects but the rows that it uses again: the room would not hold them. */
    private static void room() {
        WrapRuns runs = new WrapRuns();
        int sum = 0;
        for (int i = 0; i < 12; i++) {
            sum += askAll(runs);
        }
        long ahead = bytesTaken();
        for (int i = 0; i < 200; i++) {
            sum += askAll(runs);
        }
        long taken = bytesTaken() - ahead;
        CHECK.isTrue("4400 calls took " + taken + " bytes", taken < 20000 && sum != 0);
    }
}
