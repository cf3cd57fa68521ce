import java.lang.reflect.Method;
import java.util.ArrayList;
import java.util.Comparator;
import java.util.List;
import java.util.Random;

/** Drawn runs of calls (the same each time), each answer compared with PlainFuse's. */
public final class FuseMinutesAgainstPlain {
    private static final int CALLS = 370;
    private static int wrong = 0;
    private final Random random;
    private final FuseMinutes fuse = new FuseMinutes();
    private final PlainFuse plain = new PlainFuse();
    private final StringBuilder log = new StringBuilder();
    private final int run;
    private int calls = 0;

    private FuseMinutesAgainstPlain(int run) {
        this.run = run;
        random = new Random(run * 7919L + 1);
    }

    public static void main(String[] args) throws Exception {
        int runs = args.length > 0 ? Integer.parseInt(args[0]) : 150;
        int from = args.length > 1 ? Integer.parseInt(args[1]) : 0;
        for (int run = from; run < from + runs && wrong == 0; run++) new FuseMinutesAgainstPlain(run).go();
        System.out.println(wrong == 0 ? "both answer alike" : "they differ");
        if (wrong != 0) System.exit(1);
    }

    private static final List<Method> METHODS = methods();

    private static List<Method> methods() {
        List<Method> list = new ArrayList<>();
        for (Method m : FuseMinutes.class.getDeclaredMethods()) {
            if (java.lang.reflect.Modifier.isPublic(m.getModifiers())) list.add(m);
        }
        list.sort(Comparator.comparing(Method::getName));
        return list;
    }

    private void go() throws Exception {
        int early = random.nextInt(5);
        int textsOften = random.nextInt(4) == 0 ? 10 : 60;
        if (random.nextInt(6) == 0) nearTheEnd();
        while (calls < CALLS && wrong == 0) {
            if (early > 0 && random.nextInt(8) == 0) {
                call("cord", 1 + random.nextInt(random.nextBoolean() ? 60 : 6), random.nextInt(random.nextBoolean() ? 100 : 4));
                early--;
            } else if (random.nextInt(textsOften) == 0) {
                tellText();
            } else if (random.nextInt(3) == 0) {
                call(ACTS[random.nextInt(ACTS.length)]);
            } else {
                String name = METHODS.get(random.nextInt(METHODS.size())).getName();
                if (isRareEnough(name)) call(name);
            }
        }
        compareAll();
    }

    private static final String[] ACTS = {"light", "light", "light", "snuff", "renew", "burn", "minute", "undo"};

    private void call(String name) throws Exception {
        call(name, drawn(method(name)));
    }

    private void nearTheEnd() throws Exception {
        for (int i = 0; i < 160 + random.nextInt(9); i++) call("minute", 60);
        call("minute", 1 + random.nextInt(60));
    }

    private void compareAll() throws Exception {
        for (int cord = 0; cord < 4; cord++) {
            call("of", cord, 2);
            call("of", cord, 3);
        }
        for (int i = 0; i < 4; i++) call("is", i);
        for (int i = 0; i < 9; i++) call("about", i);
        for (int i = 0; i < plain.w.burning.book.size(); i++) {
            for (int what = 0; what < 4; what++) call("book", i, what);
        }
    }

    private boolean isRareEnough(String name) {
        return switch (name) {
            case "back", "image" -> random.nextInt(4) == 0;
            case "shifts" -> random.nextInt(2) == 0;
            case "end", "feed", "text" -> random.nextInt(8) == 0;
            case "row", "between", "bundle", "part" -> random.nextInt(2) == 0;
            default -> true;
        };
    }

    private Object[] drawn(Method m) {
        Class<?>[] types = m.getParameterTypes();
        Object[] args = new Object[types.length];
        for (int i = 0; i < types.length; i++) {
            args[i] = types[i] == boolean.class ? (Object) random.nextBoolean() : (Object) drawnFor(m.getName(), i);
        }
        return args;
    }

    private int drawnFor(String name, int i) {
        if (random.nextInt(25) == 0) return wild();
        int cords = plain.w.cords.size();
        int cord = random.nextInt(Math.max(1, cords + (random.nextInt(6) == 0 ? 1 : 0)));
        int set = 1 + random.nextInt(Math.max(1, (1 << cords) - 1));
        return switch (name) {
            case "cord" -> i == 0 ? random.nextInt(63) : random.nextInt(102);
            case "hands" -> random.nextInt(10);
            case "by", "played" -> random.nextInt(5) - 1;
            case "minute" -> random.nextInt(3) == 0 ? random.nextInt(62) : 1 + random.nextInt(4);
            case "shifts" -> i == 0 ? random.nextInt(10000) : random.nextInt(42);
            case "of" -> i == 0 ? cord : random.nextInt(6);
            case "light", "snuff", "renew", "law", "out", "wet" -> cord;
            case "said" -> i == 0 ? (random.nextInt(8) == 0 ? -1 : cord) : random.nextInt(4) == 0 ? random.nextInt(12) : plain.law(cord, false, false);
            case "book" -> i == 0 ? random.nextInt(33) - 1 : random.nextInt(5);
            case "foretold" -> i == 0 ? random.nextInt(62) : cord;
            case "spans" -> i == 0 ? set : random.nextInt(4) == 0 ? -1 : random.nextInt(random.nextBoolean() ? 20 : 900);
            case "row" -> i == 0 ? set : i == 1 ? span(set) : random.nextInt(6) - 1;
            case "can", "between", "nearest" -> i == 0 ? set : span(set);
            case "fewest", "cheapest", "crews", "take" -> span(set);
            case "want" -> random.nextInt(8) == 0 ? -1 : span(set);
            case "tried" -> random.nextInt(8) == 0 ? -1 : set;
            case "right" -> random.nextInt(i == 0 ? 14 : 12);
            case "tries" -> random.nextInt(i == 1 ? 12 : 6);
            case "is", "fault", "ledger", "suspects" -> random.nextInt(5);
            case "end" -> random.nextInt(310);
            case "feed" -> random.nextInt();
            default -> random.nextInt(10);
        };
    }

    private int span(int set) {
        int count = plain.spans(set, -1);
        if (count <= 0 || random.nextInt(4) == 0) return random.nextInt(15364);
        return plain.spans(set, random.nextInt(count)) + (random.nextInt(8) == 0 ? 1 : 0);
    }

    private int wild() {
        int[] values = {-1, -2, 0, 1, 4, 5, 16, 31, 64, 15360, 15361, Integer.MAX_VALUE, Integer.MIN_VALUE, 1 << 30, -100, 1000000};
        return values[random.nextInt(values.length)];
    }

    private void tellText() throws Exception {
        if (random.nextInt(9) > 0) call("end", 0);
        StringBuilder text = new TextDraw(random).text();
        if (text.length() > 300) text.setLength(300);
        int[] words = new int[(text.length() + 19) / 20 * 5];
        for (int i = 0; i < words.length * 4; i++) {
            int b = i < text.length() ? text.charAt(i) & 255 : 32;
            words[i / 4] = words[i / 4] << 8 | b;
        }
        for (int i = 0; i < words.length; i += 5) call("feed", words[i], words[i + 1], words[i + 2], words[i + 3], words[i + 4]);
        log.append("   text: ").append(text).append('\n');
        if (random.nextInt(10) > 0) call("end", text.length());
        call("text");
        call("fault", 0);
        call("fault", 1);
        if (random.nextBoolean()) call("by", plain.w.texts.size() - 1);
        if (random.nextBoolean()) call("played", plain.w.texts.size() - 1);
    }

    private static Method method(String name) {
        for (Method m : METHODS) if (m.getName().equals(name)) return m;
        return null;
    }

    private void call(String name, Object... args) throws Exception {
        if (calls >= 512 || wrong != 0) return;
        calls++;
        Method method = method(name);
        StringBuilder shown = new StringBuilder(name).append('(');
        for (int i = 0; i < args.length; i++) shown.append(i > 0 ? ", " : "").append(args[i]);
        shown.append(')');
        Object got = method.invoke(fuse, args);
        Object due = PlainFuse.class.getDeclaredMethod(name, method.getParameterTypes()).invoke(plain, args);
        log.append(shown).append(" = ").append(due).append('\n');
        if (!got.equals(due)) {
            wrong++;
            System.out.println(log);
            System.out.println("run " + run + ": " + shown + " answered " + got + ", PlainFuse " + due);
        }
    }

    /** TEXTS by the grammar, and some with a slip. */
    private static final class TextDraw {
        private final Random random;
        private final StringBuilder out = new StringBuilder();

        TextDraw(Random random) {
            this.random = random;
        }

        StringBuilder text() {
            boolean lights = random.nextInt(3) > 0;
            boolean fails = random.nextInt(3) > 0;
            int acts = random.nextInt(random.nextInt(20) == 0 ? 30 : 8);
            if (random.nextInt(8) == 0) {
                // Nothing but short CLAUSES, about as many as there can be.
                for (int i = 0; i < 20 + random.nextInt(7); i++) put(random.nextInt(9) == 0 ? "fails 1 ;" : random.nextInt(40) == 0 ? "x ;" : "burn ;");
                return out;
            }
            for (int i = 0; i <= acts; i++) {
                if (lights && random.nextInt(acts + 1) <= i) {
                    law("lights");
                    lights = random.nextInt(30) == 0;
                }
                if (fails && random.nextInt(acts + 1) <= i) {
                    law("fails");
                    fails = random.nextInt(30) == 0;
                }
                if (i < acts) act();
            }
            if (random.nextInt(3) == 0) slip();
            return out;
        }

        private void slip() {
            String[] bits = {"(", ")", "-", "<", "<=", "if", "not", "twos", "out", "then", "end", ";", "side", "10000",
                "9999", "00000000000000007", "$", "\t", "A", "burn", "lights", "fails", "\n", "é", "=", "x", "and", "or", "#"};
            for (int i = 0; i < 1 + random.nextInt(2); i++) {
                int at = random.nextInt(out.length() + 1);
                if (random.nextBoolean()) {
                    out.insert(at, bits[random.nextInt(bits.length)]);
                } else if (at < out.length()) {
                    out.delete(at, Math.min(out.length(), at + 1 + random.nextInt(3)));
                }
            }
        }

        private void put(String s) {
            boolean sticks = out.length() > 0 && random.nextInt(2) == 0
                && !(Character.isLetterOrDigit(out.charAt(out.length() - 1)) && Character.isLetterOrDigit(s.charAt(0)));
            if (!sticks) out.append(random.nextInt(10) == 0 ? "\n" : " ");
            out.append(s);
        }

        private void law(String which) {
            put(which);
            int deep = random.nextInt(6) == 0 ? 9 : 3;
            sum(deep, which.equals("lights") || random.nextInt(9) == 0);
            put(";");
        }

        private void act() {
            int cord = random.nextInt(25) == 0 ? 4 : random.nextInt(4);
            switch (random.nextInt(9)) {
                case 0 -> {
                    put("cord");
                    put("" + (random.nextInt(30) == 0 ? 61 : 1 + random.nextInt(random.nextBoolean() ? 60 : 7)));
                    put("price");
                    put("" + random.nextInt(101));
                }
                case 1 -> {
                    put("hands");
                    put("" + random.nextInt(10));
                }
                case 2, 3 -> {
                    put("left");
                    put("" + cord);
                }
                case 4 -> {
                    put("right");
                    put("" + cord);
                }
                case 5 -> {
                    put("snuff");
                    put("" + cord);
                }
                case 6 -> {
                    put("renew");
                    put("" + cord);
                }
                case 7 -> put("burn");
                default -> {
                    put("minute");
                    put("" + (random.nextInt(4) == 0 ? random.nextInt(62) : 1 + random.nextInt(3)));
                }
            }
            put(";");
        }

        private void sum(int deep, boolean side) {
            product(deep, side);
            while (random.nextInt(3) == 0) {
                put(random.nextBoolean() ? "+" : "-");
                product(deep - 1, side);
            }
        }

        private void product(int deep, boolean side) {
            one(deep, side);
            while (random.nextInt(4) == 0) {
                put(random.nextBoolean() ? "*" : "/");
                one(deep - 1, side);
            }
        }

        private void one(int deep, boolean side) {
            int kind = deep <= 0 || out.length() > 230 ? random.nextInt(2) : random.nextInt(deep > 4 ? 14 : 8);
            switch (kind) {
                case 0 -> put("" + random.nextInt(random.nextInt(4) == 0 ? 10000 : 12));
                case 1 -> {
                    String[] names = {"time", "cord", "rest", "long", "price", "lit", "side"};
                    put(names[random.nextInt(side ? 7 : 6)]);
                }
                case 2, 8 -> {
                    put("(");
                    sum(deep - 1, side);
                    put(")");
                }
                case 3, 9 -> {
                    put("-");
                    one(deep - 1, side);
                }
                case 4, 10 -> {
                    put("twos");
                    one(deep - 1, side);
                }
                case 5, 11 -> {
                    put("out");
                    one(deep - 1, side);
                }
                default -> {
                    put("if");
                    either(deep - 1, side);
                    put("then");
                    sum(deep - 1, side);
                    put("else");
                    sum(deep - 1, side);
                    put("end");
                }
            }
        }

        private void either(int deep, boolean side) {
            ask(deep, side);
            while (random.nextInt(4) == 0) {
                put(random.nextBoolean() ? "or" : "and");
                ask(deep - 1, side);
            }
        }

        private void ask(int deep, boolean side) {
            if (deep > 0 && random.nextInt(4) == 0) {
                put("not");
                ask(deep - 1, side);
                return;
            }
            sum(Math.min(deep, 1), side);
            String[] signs = {"<", "<=", ">", ">=", "=", "#"};
            put(signs[random.nextInt(6)]);
            sum(Math.min(deep, 1), side);
        }
    }
}
