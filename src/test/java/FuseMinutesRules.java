import java.lang.management.ManagementFactory;
import java.lang.reflect.Constructor;
import java.lang.reflect.Field;
import java.lang.reflect.Method;
import java.lang.reflect.Modifier;
import java.nio.file.Files;
import java.nio.file.Path;
import java.util.ArrayList;
import java.util.List;
import java.util.TreeSet;
import java.util.regex.Pattern;

/** Rules of LANGUAGE.md that can be looked up, and the room that a run of calls takes. */
public final class FuseMinutesRules {
    private static final Path SOURCE = Path.of("src/main/java/FuseMinutes.java");
    private static final String FACE = "about(int) back() between(int,int,boolean) bundle(boolean) burn() burning() by(int)"
        + " book(int,int) can(int,int) cheapest(int) cord(int,int) crews(int,int) dead() end(int) fault(int)"
        + " feed(int,int,int,int,int) fewest(int) foretold(int,int) hands(int) image() is(int) law(int,boolean,boolean)"
        + " ledger(int) light(int,boolean) longest() minute(int) nearest(int,int) of(int,int) out(int) part(int)"
        + " played(int) renew(int) right(int,int,boolean) row(int,int,int) said(int,int) shifts(int,int)"
        + " snuff(int,boolean) spans(int,int) suspects(int) take(int,int) test() text() tried(int,boolean)"
        + " tries(int,int,int,boolean) undo() want(int) wet(int,boolean) whose()";
    private static int wrong = 0;

    public static void main(String[] args) throws Exception {
        face();
        String code = withoutRemarks(Files.readString(SOURCE));
        words(code);
        lengths(code);
        room();
        System.out.println(wrong == 0 ? "the rules are kept" : wrong + " rules are not kept");
        if (wrong != 0) System.exit(1);
    }

    private static void broken(String what) {
        wrong++;
        System.out.println(what);
    }

    private static void face() {
        TreeSet<String> due = new TreeSet<>(List.of(FACE.split(" ")));
        TreeSet<String> got = new TreeSet<>();
        TreeSet<String> publicNames = new TreeSet<>();
        List<Method> hidden = new ArrayList<>();
        for (Method m : FuseMinutes.class.getDeclaredMethods()) {
            String types = String.join(",", names(m.getParameterTypes()));
            if (Modifier.isPrivate(m.getModifiers())) {
                hidden.add(m);
            } else {
                got.add(m.getName() + "(" + types + ")");
                publicNames.add(m.getName());
            }
        }
        if (!got.equals(due)) broken("rule 1: the face is " + got);
        for (Class<?> inside : FuseMinutes.class.getDeclaredClasses()) {
            if (!Modifier.isStatic(inside.getModifiers())) broken("rule 2: " + inside + " isn't static");
            hidden.addAll(List.of(inside.getDeclaredMethods()));
            if (inside.getDeclaredFields().length > 20) broken("rule 11: fields of " + inside);
        }
        for (Method m : hidden) {
            if (publicNames.contains(m.getName())) broken("rule 1: " + m + " bears a public name");
            if (m.getParameterCount() > 7) broken("rule 11: parameters of " + m);
        }
        if (FuseMinutes.class.getDeclaredClasses().length > 11) broken("rule 11: too many classes");
        for (Field f : FuseMinutes.class.getDeclaredFields()) {
            if (!Modifier.isPrivate(f.getModifiers()) && !f.getName().equals("NONE")) broken("rule 1: " + f);
            if (Modifier.isStatic(f.getModifiers()) && !Modifier.isFinal(f.getModifiers())) broken("rule 5: " + f);
        }
        Constructor<?>[] made = FuseMinutes.class.getDeclaredConstructors();
        if (made.length != 1 || made[0].getParameterCount() != 0) broken("rule 1: constructors");
        if (!Modifier.isFinal(FuseMinutes.class.getModifiers())) broken("rule 1: the class isn't final");
    }

    private static List<String> names(Class<?>[] types) {
        List<String> names = new ArrayList<>();
        for (Class<?> t : types) names.add(t.getSimpleName());
        return names;
    }

    private static String withoutRemarks(String source) {
        return source.replaceAll("(?s)/\\*.*?\\*/", "").replaceAll("//[^\n]*", "").replaceAll("\"[^\"\n]*\"", "\"\"");
    }

    private static void words(String code) {
        String[] none = {"throw", "try", "catch", "synchronized", "assert", "import", "package", "Object", "Exception",
            "equals", "hashCode", "toString", "Exact", "System\\.(?!arraycopy)", "while *\\(true", "->", "::", "\"\" *\\+", "\\+ *\"\""};
        for (String word : none) {
            String pattern = Character.isLetter(word.charAt(0)) ? "\\b" + word : word;
            if (Pattern.compile(pattern).matcher(code).find()) broken("rules 3 to 10: " + word);
        }
    }

    private static void lengths(String code) {
        String[] lines = code.split("\n");
        int begins = -1;
        for (int i = 0; i < lines.length; i++) {
            if (lines[i].matches(" {4}( {4})?[a-zA-Z].*\\) \\{")) begins = i;
            if (begins >= 0 && lines[i].matches(" {4}( {4})?\\}")) {
                if (i - begins > 60) broken("rule 11: long method at line " + (begins + 1));
                begins = -1;
            }
        }
    }

    /** Calls make nothing: all room is taken when an object is made, and that is little. */
    private static void room() {
        com.sun.management.ThreadMXBean threads = (com.sun.management.ThreadMXBean) ManagementFactory.getThreadMXBean();
        long id = Thread.currentThread().getId();
        calls(new FuseMinutes());
        long before = threads.getThreadAllocatedBytes(id);
        FuseMinutes x = new FuseMinutes();
        long made = threads.getThreadAllocatedBytes(id);
        calls(x);
        long behind = threads.getThreadAllocatedBytes(id);
        if (made - before > 120000) broken("room: an object takes " + (made - before) + " bytes");
        if (behind - made > 4000) broken("room: calls take " + (behind - made) + " bytes");
    }

    private static void calls(FuseMinutes x) {
        x.cord(60, 1);
        x.cord(59, 2);
        x.cord(31, 2);
        x.cord(7, 3);
        for (int i = 0; i < 20; i++) {
            x.feed(0x66616968, 0x6c732031, 0x3b202020, 0x20202020, i);
            x.text();
            x.end(0);
            x.feed(0x6661696c, 0x73207265, 0x73742d31, 0x3b202020, 0x20202020);
            x.text();
            x.by(i % 4);
            x.shifts(i * 100, 40);
            x.light(i % 4, false);
            x.minute(3);
            x.burn();
            x.played(i % 4);
            x.image();
            x.undo();
            x.back();
            x.want(64 * i + 32);
            x.tried(i % 15 + 1, i % 2 == 0);
            x.said(i % 4, i % 11);
            x.spans(15, i);
            x.row(15, 64 * i + 64, 0);
            x.nearest(15, 500 * i + 1);
            x.bundle(true);
            x.crews(64 * i + 64, 448);
            x.test();
            x.right(12, i % 10, true);
        }
    }
}
