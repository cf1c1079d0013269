import java.io.IOException;
import java.lang.reflect.Field;
import java.lang.reflect.Modifier;
import java.nio.file.Files;
import java.nio.file.Path;
import java.util.Set;
import java.util.regex.Matcher;
import java.util.regex.Pattern;

/** The rules of ../shared/LANGUAGE.md that can be read off the source, and the room that calls take. */
public final class LanguageTest {
    private static final String[] NOT_THERE = {"->", "::", "\\btry\\b", "\\bcatch\\b", "\\bfinally\\b", "\\bsynchronized\\b",
        "\\bassert\\b", "\\bprotected\\b", "Exact\\(", "System\\.(?!arraycopy)", "\\bvar\\b", "\\bstatic\\s*\\{",
        "\\bRandom\\b", "\\bThread\\b", "\\bpackage\\b", "\\bequals\\(Object", "\\bhashCode\\b", "\\btoString\\b",
        "\\bObject\\b", "\\bvolatile\\b", "\\bnative\\b"};

    private static final Set<String> LIBRARY = Set.of("Math.min(", "Math.max(", "Math.abs(", "Integer.bitCount(",
            "System.arraycopy(", "Word.values(");

    private LanguageTest() {
    }

    public static void main(String[] args) throws IOException {
        String source = Files.readString(Path.of("src/main/java/TurnBrothers.java"))
                .replaceAll("(?s)/\\*.*?\\*/", "").replaceAll("//[^\n]*", "").replaceAll("\"[^\"\n]*\"", "\"\"");
        for (String pattern : NOT_THERE) {
            Checks.same("places of " + pattern, 0, places(pattern, source));
        }
        Checks.same("imports", 1, places("(?m)^import ", source));
        Checks.same("of NoSuchElementException", 1, places("import java\\.util\\.NoSuchElementException;", source));
        Checks.same("at most twelve classes", true, places("\\b(class|enum|interface|record) [A-Z]", source) <= 12);
        library(source);
        methods(source);
        fields(TurnBrothers.class);
        for (Class<?> inside : TurnBrothers.class.getDeclaredClasses()) {
            fields(inside);
        }
        room();
        Checks.finish();
    }

    private static int places(String pattern, String source) {
        Matcher matcher = Pattern.compile(pattern).matcher(source);
        int many = 0;
        while (matcher.find()) {
            many++;
        }
        return many;
    }

    private static void library(String source) {
        Matcher call = Pattern.compile("\\b[A-Z]\\w*\\.\\w+\\(").matcher(source);
        while (call.find()) {
            Checks.same(call.group() + " stands in the library's list", true, LIBRARY.contains(call.group()));
        }
        Checks.same("values() kept once", 1, places("\\bvalues\\(\\)", source));
        Checks.same("texts joined by +", 0, places("\"\"\\s*\\+|\\+=?\\s*\"\"", source));
        Checks.same("throws of a written text", places("\\bthrow\\b", source),
                places("throw new (NoSuchElement|IllegalArgument)Exception\\(\"\"\\);", source));
    }

    /** Static fields are final, a class has some twenty others. */
    private static void fields(Class<?> one) {
        int many = 0;
        for (Field field : one.getDeclaredFields()) {
            if (!Modifier.isStatic(field.getModifiers())) {
                many++;
            } else if (!field.isSynthetic()) {
                Checks.same(field + " is final", true, Modifier.isFinal(field.getModifiers()));
            }
        }
        Checks.same("fields of " + one, true, many <= 20);
    }

    private static void methods(String source) {
        String[] lines = source.split("\n");
        int opened = -1;
        String indent = "";
        for (int i = 0; i < lines.length; i++) {
            Matcher head = Pattern.compile("( {4}| {8})\\S.*\\) (throws .*)?\\{").matcher(lines[i]);
            if (head.matches() && opened < 0) {
                opened = i;
                indent = head.group(1);
                Checks.same("at most seven parameters: " + lines[i].trim(), true, places(",", lines[i]) <= 7);
            } else if (opened >= 0 && lines[i].equals(indent + "}")) {
                Checks.same("short: " + lines[opened].trim(), true, i - opened <= 60);
                opened = -1;
            }
        }
    }

    /** All calls of a run live in one room: once the objects are made, calls take none of it. */
    private static void room() {
        com.sun.management.ThreadMXBean threads =
                (com.sun.management.ThreadMXBean) java.lang.management.ManagementFactory.getThreadMXBean();
        TurnBrothers x = new TurnBrothers();
        Checks.land(x, LandTest.CITY);
        askAll(x);
        long self = Thread.currentThread().getId();
        threads.getThreadAllocatedBytes(self);
        long before = threads.getThreadAllocatedBytes(self);
        for (int i = 0; i < 100; i++) {
            askAll(x);
        }
        long taken = threads.getThreadAllocatedBytes(self) - before;
        Checks.same("bytes taken by calls, less some for the measure: " + taken, true, taken < 2000);
        before = threads.getThreadAllocatedBytes(self);
        new TurnBrothers();
        taken = threads.getThreadAllocatedBytes(self) - before;
        Checks.same("bytes taken by an object: " + taken, true, taken < 40000);
    }

    private static void askAll(TurnBrothers x) {
        x.feed(0x7465726d, 0x20333b20, 0x20202020, 0x20202020, 0x73746179);
        x.land(17);
        x.feed(0x66726965, 0x6e642031, 0x20313b20, 0x20202020, 0x20202020);
        x.land(12);
        x.years(2);
        x.loan(5);
        x.term(2);
        x.gift(0, 1);
        x.undo();
        x.see(1, 1);
        x.next(0);
        x.another(0);
        x.forget();
        x.image();
        x.restore();
        x.then(60, 0);
        x.stays(0);
        x.fair();
        x.least();
        x.cost(60);
        x.plan(4, 0);
        x.assault(-1);
        x.bought(0);
        x.odds(0, 5, 5);
        x.moved(0, 99);
        x.parties(0);
        x.cities(7, 60, 0);
        x.ruin();
        x.highest(0);
        x.better(0);
        x.swap(0);
        x.brother(0, 4);
        x.friend(0, 2);
    }
}
