import java.io.IOException;
import java.lang.management.ManagementFactory;
import java.lang.reflect.Constructor;
import java.lang.reflect.Field;
import java.lang.reflect.Member;
import java.lang.reflect.Method;
import java.lang.reflect.Modifier;
import java.nio.file.Files;
import java.nio.file.Path;
import java.util.ArrayList;
import java.util.List;
import java.util.Set;
import java.util.TreeSet;

/** The document's face, rules of LANGUAGE.md that can be looked up, and the room that a run of calls takes. */
public final class FuseMinutesRules {
    private static final Path SOURCE = Path.of("src/main/java/FuseMinutes.java");
    private static final Path DOCUMENT = Path.of("../shared/DOC.md");
    private static final int MOST_DEPTH = 8;
    private static int wrong = 0;

    public static void main(String[] args) throws Exception {
        face();
        namesOfHidden();
        SourceRules rules = SourceRules.of(SOURCE);
        for (String one : rules.broken()) broken(one);
        depth(rules);
        room();
        System.out.println(wrong == 0 ? "the rules are kept" : wrong + " rules are not kept");
        if (wrong != 0) System.exit(1);
    }

    private static void broken(String what) {
        wrong++;
        System.out.println(what);
    }

    private static void face() throws IOException {
        Set<String> due = faceOfDocument();
        Set<String> got = new TreeSet<>();
        for (Method m : FuseMinutes.class.getDeclaredMethods()) {
            if (!Modifier.isPrivate(m.getModifiers())) got.add(written(m, m.getReturnType().getSimpleName() + " " + m.getName(), m.getParameterTypes()));
        }
        for (Constructor<?> c : FuseMinutes.class.getDeclaredConstructors()) got.add(written(c, "FuseMinutes", c.getParameterTypes()));
        for (Field f : FuseMinutes.class.getDeclaredFields()) {
            if (!Modifier.isPrivate(f.getModifiers())) got.add(Modifier.toString(f.getModifiers()) + " int " + f.getName() + " = " + FuseMinutes.NONE);
        }
        got.add(Modifier.toString(FuseMinutes.class.getModifiers()) + " class FuseMinutes");
        for (String one : due) {
            if (!got.contains(one)) broken("rule 1: the face has no " + one);
        }
        for (String one : got) {
            if (!due.contains(one)) broken("rule 1: the document has no " + one);
        }
    }

    private static String written(Member member, String name, Class<?>[] parameters) {
        List<String> types = new ArrayList<>();
        for (Class<?> type : parameters) types.add(type.getSimpleName());
        return Modifier.toString(member.getModifiers()) + " " + name + "(" + String.join(", ", types) + ")";
    }

    /** Line by line, without the names of parameters. */
    private static Set<String> faceOfDocument() throws IOException {
        String document = Files.readString(DOCUMENT);
        int begins = document.indexOf("```java");
        String block = document.substring(begins + 7, document.indexOf("```", begins + 7));
        Set<String> face = new TreeSet<>();
        for (String line : block.split("\n")) {
            String plain = line.trim().replaceAll("[;{]$", "").trim();
            if (!plain.isEmpty() && !plain.equals("}")) face.add(plain.replaceAll("\\b(int|boolean|long) \\w+(?=[,)])", "$1"));
        }
        return face;
    }

    private static void namesOfHidden() {
        Set<String> publicNames = new TreeSet<>();
        List<Method> hidden = new ArrayList<>();
        for (Method m : FuseMinutes.class.getDeclaredMethods()) {
            if (Modifier.isPrivate(m.getModifiers())) {
                hidden.add(m);
            } else {
                publicNames.add(m.getName());
            }
        }
        for (Class<?> inside : FuseMinutes.class.getDeclaredClasses()) hidden.addAll(List.of(inside.getDeclaredMethods()));
        for (Method m : hidden) {
            if (publicNames.contains(m.getName())) broken("rule 1: " + m + " bears a public name");
        }
    }

    /** Recursions are these alone: each has a guard of its own (8 open, 4 moments, 4 CORDS to take). */
    private static void depth(SourceRules rules) {
        CallDepth depth = new CallDepth(rules.calls());
        for (String method : rules.publicMethods()) {
            List<String> chain = depth.chainFrom(method);
            if (chain.size() > MOST_DEPTH) broken("rule 11: " + chain.size() + " deep: " + chain);
        }
        Set<Set<String>> guarded = Set.of(Set.of("Rows.walk"), Set.of("Crews.outcome", "Crews.behindTaking"),
            Set.of("Reader.readSum", "Reader.readProduct", "Reader.readOne", "Reader.readOpening", "Reader.readIf", "Reader.readEither",
                "Reader.readBoth", "Reader.readAsk"));
        if (!depth.recursions().equals(guarded)) broken("rule 8: recursions are " + depth.recursions());
    }

    /** Calls make nothing: all room is taken when an object is made, and that is little. */
    private static void room() {
        com.sun.management.ThreadMXBean threads = (com.sun.management.ThreadMXBean) ManagementFactory.getThreadMXBean();
        long id = Thread.currentThread().getId();
        calls(new FuseMinutes());
        long before = threads.getThreadAllocatedBytes(id);
        FuseMinutes x = new FuseMinutes();
        long made = threads.getThreadAllocatedBytes(id);
        calls(x);
        long behind = threads.getThreadAllocatedBytes(id);
        if (made - before > 120000) broken("room: an object takes " + (made - before) + " bytes");
        if (behind - made > 4000) broken("room: calls take " + (behind - made) + " bytes");
    }

    private static void calls(FuseMinutes x) {
        x.cord(60, 1);
        x.cord(59, 2);
        x.cord(31, 2);
        x.cord(7, 3);
        for (int i = 0; i < 20; i++) {
            x.feed(0x66616968, 0x6c732031, 0x3b202020, 0x20202020, i);
            x.text();
            x.end(0);
            x.feed(0x6661696c, 0x73207265, 0x73742d31, 0x3b202020, 0x20202020);
            x.text();
            x.by(i % 4);
            x.shifts(i * 100, 40);
            x.light(i % 4, false);
            x.minute(3);
            x.burn();
            x.played(i % 4);
            x.image();
            x.undo();
            x.back();
            x.want(64 * i + 32);
            x.tried(i % 15 + 1, i % 2 == 0);
            x.said(i % 4, i % 11);
            x.spans(15, i);
            x.row(15, 64 * i + 64, 0);
            x.nearest(15, 500 * i + 1);
            x.bundle(true);
            x.crews(64 * i + 64, 448);
            x.test();
            x.right(12, i % 10, true);
        }
    }
}
