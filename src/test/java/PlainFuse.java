import java.math.BigInteger;
import java.util.ArrayDeque;
import java.util.ArrayList;
import java.util.Arrays;
import java.util.Deque;
import java.util.HashMap;
import java.util.List;
import java.util.Map;
import java.util.TreeSet;

/**
 * The document once more, as plainly as can be and by other ways than the program: SPARK by SPARK,
 * every ROW written out, TEXTS parsed by a table and kept as trees. Slow; for comparing only.
 */
final class PlainFuse {
    static final class Node {
        final String what;
        final int number;
        final List<Node> parts = new ArrayList<>();

        Node(String what, int number, Node... parts) {
            this.what = what;
            this.number = number;
            this.parts.addAll(Arrays.asList(parts));
        }
    }

    static final class Clause {
        String kind;
        List<Integer> numbers = new ArrayList<>();
        Node sum;
    }

    /** What a STEP takes back. */
    static final class Burning {
        List<Integer> rest = new ArrayList<>();
        List<boolean[]> ends = new ArrayList<>();
        int sparks = 0;
        int lit = 0;
        int x = 311;
        List<int[]> book = new ArrayList<>();

        Burning copy() {
            Burning c = new Burning();
            c.rest.addAll(rest);
            for (boolean[] e : ends) c.ends.add(e.clone());
            c.sparks = sparks;
            c.lit = lit;
            c.x = x;
            c.book.addAll(book);
            return c;
        }
    }

    static final class World {
        Burning burning = new Burning();
        List<Burning> steps = new ArrayList<>();
        List<int[]> cords = new ArrayList<>();
        List<Boolean> wet = new ArrayList<>();
        int hands = 2;
        List<List<Clause>> texts = new ArrayList<>();
        int ruling = -1;
        List<Integer> wanted = new ArrayList<>();
        List<int[]> tried = new ArrayList<>();
        List<int[]> said = new ArrayList<>();

        World copy() {
            World c = new World();
            c.burning = burning.copy();
            for (Burning b : steps) c.steps.add(b.copy());
            c.cords.addAll(cords);
            c.wet.addAll(wet);
            c.hands = hands;
            c.texts.addAll(texts);
            c.ruling = ruling;
            c.wanted.addAll(wanted);
            c.tried.addAll(tried);
            c.said.addAll(said);
            return c;
        }
    }

    World w = new World();
    World kept = new World();
    List<Integer> tape = new ArrayList<>();
    int fault = -1;
    int faultPlace = -1;

    // ---- telling

    int cord(int minutes, int price) {
        if (minutes < 1 || minutes > 60 || price < 0 || price > 99 || w.cords.size() == 4) return -1;
        w.cords.add(new int[] {minutes, price});
        w.wet.add(false);
        w.burning.rest.add(minutes * 64);
        w.burning.ends.add(new boolean[2]);
        return w.cords.size() - 1;
    }

    boolean hands(int n) {
        if (n < 1 || n > 8) return false;
        w.hands = n;
        return true;
    }

    int feed(int a, int b, int c, int d, int e) {
        if (tape.size() > 280) return -1;
        for (int v : new int[] {a, b, c, d, e}) {
            tape.add(v >>> 24);
            tape.add((v >>> 16) & 255);
            tape.add((v >>> 8) & 255);
            tape.add(v & 255);
        }
        return tape.size();
    }

    int end(int n) {
        if (n < 0 || n > tape.size()) return -1;
        tape = new ArrayList<>(tape.subList(0, n));
        return n;
    }

    int text() {
        if (w.texts.size() == 4) return -1;
        List<Clause> read = parse(tape);
        tape = new ArrayList<>();
        if (fault != 0) return -1;
        w.texts.add(read);
        return w.texts.size() - 1;
    }

    int fault(int what) {
        return what == 0 ? fault : what == 1 ? faultPlace : -1;
    }

    boolean by(int text) {
        if (text < -1 || text >= w.texts.size()) return false;
        w.ruling = text;
        return true;
    }

    // ---- texts

    private static final List<String> WORDS = List.of("lights", "fails", "cord", "price", "hands", "left", "right",
            "snuff", "renew", "burn", "minute", "twos", "out", "if", "then", "else", "end", "or", "and", "not", "time",
            "rest", "long", "lit", "side");
    private static final List<String> NAMES = List.of("time", "cord", "rest", "long", "price", "lit", "side");
    private static final List<String> OPENERS = List.of("(", "-", "twos", "out", "if");
    private static final List<String> COMPARE = List.of("<", "<=", ">", ">=", "=", "#");

    /** A table-driven parser: a stack of what is still due, and a stack of trees. */
    List<Clause> parse(List<Integer> bytes) {
        fault = 0;
        faultPlace = -1;
        StringBuilder sb = new StringBuilder();
        for (int b : bytes) sb.append((char) b);
        String s = sb.toString();
        List<Clause> clauses = new ArrayList<>();
        Deque<String> due = new ArrayDeque<>();
        Deque<Node> trees = new ArrayDeque<>();
        due.push("TEXT");
        Clause current = null;
        int open = 0;
        int at = 0;
        while (true) {
            while (at < s.length() && (s.charAt(at) == ' ' || s.charAt(at) == '\n')) at++;
            int place = at;
            String token = tokenAt(s, at);
            at += token.length();
            boolean number = !token.isEmpty() && Character.isDigit(token.charAt(0)) && token.charAt(0) < 128;
            boolean big = number && new BigInteger(token).compareTo(BigInteger.valueOf(9999)) > 0;
            int value = number ? (big ? 10000 : Integer.parseInt(token)) : -1;
            boolean taken = false;
            while (!taken) {
                String top = due.pop();
                int bad = 0;
                if (top.equals("TEXT")) {
                    if (token.isEmpty()) return clauses;
                    List<String> starts = List.of("lights", "fails", "cord", "hands", "left", "right", "snuff",
                            "renew", "burn", "minute");
                    if (!starts.contains(token)) {
                        bad = 1;
                    } else if ((token.equals("lights") || token.equals("fails")) && has(clauses, token)) {
                        bad = 4;
                    } else if (clauses.size() == 24) {
                        bad = 6;
                    } else {
                        current = new Clause();
                        current.kind = token;
                        clauses.add(current);
                        due.push("TEXT");
                        due.push(";");
                        switch (token) {
                            case "lights", "fails" -> {
                                due.push("!law");
                                due.push("SUM");
                            }
                            case "cord" -> {
                                due.push("N 0 99");
                                due.push("price");
                                due.push("N 1 60");
                            }
                            case "hands" -> due.push("N 1 8");
                            case "minute" -> due.push("N 1 60");
                            case "burn" -> { }
                            default -> due.push("N 0 3");
                        }
                        taken = true;
                    }
                } else if (top.startsWith("N ")) {
                    String[] range = top.split(" ");
                    if (!number) {
                        bad = 1;
                    } else if (value < Integer.parseInt(range[1]) || value > Integer.parseInt(range[2])) {
                        bad = 2;
                    } else {
                        current.numbers.add(value);
                        taken = true;
                    }
                } else if (top.startsWith("!")) {
                    String act = top.substring(1);
                    if (act.equals("close")) {
                        open--;
                    } else if (act.equals("law")) {
                        current.sum = trees.pop();
                    } else if (act.startsWith("1")) {
                        trees.push(new Node(act.substring(1), 0, trees.pop()));
                    } else if (act.startsWith("2")) {
                        Node b = trees.pop();
                        Node a = trees.pop();
                        trees.push(new Node(act.substring(1), 0, a, b));
                    } else {
                        Node c = trees.pop();
                        Node b = trees.pop();
                        Node a = trees.pop();
                        trees.push(new Node(act.substring(1), 0, a, b, c));
                    }
                } else if (top.equals("SUM")) {
                    due.push("SUMS");
                    due.push("PRODUCT");
                } else if (top.equals("PRODUCT")) {
                    due.push("PRODUCTS");
                    due.push("ONE");
                } else if (top.equals("EITHER")) {
                    due.push("ORS");
                    due.push("BOTH");
                } else if (top.equals("BOTH")) {
                    due.push("ANDS");
                    due.push("ASK");
                } else if (top.equals("SUMS")) {
                    if (token.equals("+") || token.equals("-")) {
                        due.push("SUMS");
                        due.push("!2" + token);
                        due.push("PRODUCT");
                        taken = true;
                    }
                } else if (top.equals("PRODUCTS")) {
                    if (token.equals("*") || token.equals("/")) {
                        due.push("PRODUCTS");
                        due.push("!2" + token);
                        due.push("ONE");
                        taken = true;
                    }
                } else if (top.equals("ORS")) {
                    if (token.equals("or")) {
                        due.push("ORS");
                        due.push("!2or");
                        due.push("BOTH");
                        taken = true;
                    }
                } else if (top.equals("ANDS")) {
                    if (token.equals("and")) {
                        due.push("ANDS");
                        due.push("!2and");
                        due.push("ASK");
                        taken = true;
                    }
                } else if (top.equals("ASK")) {
                    if (!token.equals("not")) {
                        due.push("COMPARE");
                        due.push("SUM");
                    } else if (open == 8) {
                        bad = 3;
                    } else {
                        open++;
                        due.push("!close");
                        due.push("!1not");
                        due.push("ASK");
                        taken = true;
                    }
                } else if (top.equals("COMPARE")) {
                    if (COMPARE.contains(token)) {
                        due.push("!2" + token);
                        due.push("SUM");
                        taken = true;
                    } else {
                        bad = 1;
                    }
                } else if (top.equals("ONE")) {
                    if (number) {
                        if (big) {
                            bad = 2;
                        } else {
                            trees.push(new Node("number", value));
                            taken = true;
                        }
                    } else if (NAMES.contains(token)) {
                        if (token.equals("side") && current.kind.equals("fails")) {
                            bad = 5;
                        } else {
                            trees.push(new Node(token, 0));
                            taken = true;
                        }
                    } else if (!OPENERS.contains(token)) {
                        bad = 1;
                    } else if (open == 8) {
                        bad = 3;
                    } else {
                        open++;
                        due.push("!close");
                        if (token.equals("(")) {
                            due.push(")");
                            due.push("SUM");
                        } else if (token.equals("if")) {
                            due.push("!3if");
                            due.push("end");
                            due.push("SUM");
                            due.push("else");
                            due.push("SUM");
                            due.push("then");
                            due.push("EITHER");
                        } else {
                            due.push("!1" + (token.equals("-") ? "minus" : token));
                            due.push("ONE");
                        }
                        taken = true;
                    }
                } else if (top.equals(token)) {
                    taken = true;
                } else {
                    bad = 1;
                }
                if (bad != 0) {
                    fault = bad;
                    faultPlace = place;
                    return null;
                }
            }
        }
    }

    private static boolean has(List<Clause> clauses, String kind) {
        for (Clause c : clauses) if (c.kind.equals(kind)) return true;
        return false;
    }

    /** The empty text at the end; a sign that is none comes as itself. */
    private static String tokenAt(String s, int at) {
        String rest = s.substring(at);
        if (rest.isEmpty()) return "";
        for (String p : new String[] {"[a-zA-Z]+", "[0-9]+", "<=|>=|[<>=#+*/();-]"}) {
            java.util.regex.Matcher m = java.util.regex.Pattern.compile(p).matcher(rest);
            if (m.lookingAt()) return m.group();
        }
        return rest.substring(0, 1);
    }

    private static final BigInteger MOST = BigInteger.valueOf(1000000);

    private static BigInteger cut(BigInteger v) {
        return v.min(MOST).max(MOST.negate());
    }

    private BigInteger value(Node n, int cord, int side) {
        List<Node> p = n.parts;
        BigInteger a = p.isEmpty() ? null : n.what.equals("if") ? null : value(p.get(0), cord, side);
        BigInteger b = p.size() == 2 ? value(p.get(1), cord, side) : null;
        Burning bu = w.burning;
        return cut(switch (n.what) {
            case "number" -> BigInteger.valueOf(n.number);
            case "time" -> BigInteger.valueOf(bu.sparks / 64);
            case "cord" -> BigInteger.valueOf(cord);
            case "rest" -> BigInteger.valueOf(bu.rest.get(cord) / 64);
            case "long" -> BigInteger.valueOf(w.cords.get(cord)[0]);
            case "price" -> BigInteger.valueOf(w.cords.get(cord)[1]);
            case "lit" -> BigInteger.valueOf(is(3));
            case "side" -> BigInteger.valueOf(side);
            case "minus" -> a.negate();
            case "twos" -> a.signum() == 0 ? a : BigInteger.ONE.shiftLeft(a.abs().getLowestSetBit());
            case "out" -> {
                int which = a.intValue();
                boolean isOut = which >= 0 && which < bu.rest.size() && bu.rest.get(which) == 0;
                yield isOut ? BigInteger.ONE : BigInteger.ZERO;
            }
            case "if" -> holds(p.get(0), cord, side) ? value(p.get(1), cord, side) : value(p.get(2), cord, side);
            case "+" -> a.add(b);
            case "-" -> a.subtract(b);
            case "*" -> a.multiply(b);
            case "/" -> b.signum() == 0 ? BigInteger.ZERO : a.divide(b);
            default -> throw new IllegalStateException(n.what);
        });
    }

    private boolean holds(Node n, int cord, int side) {
        if (n.what.equals("or")) return holds(n.parts.get(0), cord, side) | holds(n.parts.get(1), cord, side);
        if (n.what.equals("and")) return holds(n.parts.get(0), cord, side) & holds(n.parts.get(1), cord, side);
        if (n.what.equals("not")) return !holds(n.parts.get(0), cord, side);
        int c = value(n.parts.get(0), cord, side).compareTo(value(n.parts.get(1), cord, side));
        return switch (n.what) {
            case "<" -> c < 0;
            case "<=" -> c <= 0;
            case ">" -> c > 0;
            case ">=" -> c >= 0;
            case "=" -> c == 0;
            default -> c != 0;
        };
    }

    private int says(int text, String law, int cord, int side) {
        if (text >= 0) {
            for (Clause c : w.texts.get(text)) {
                if (c.kind.equals(law)) {
                    int v = value(c.sum, cord, side).intValue();
                    return law.equals("lights") ? Math.min(99, Math.max(-99, v)) : Math.min(10, Math.max(0, v));
                }
            }
        }
        return law.equals("lights") ? 1 : 0;
    }

    int law(int cord, boolean right, boolean lights) {
        if (!isCord(cord)) return -100;
        return says(w.ruling, lights ? "lights" : "fails", cord, right ? 1 : 0);
    }

    // ---- acts

    private boolean isCord(int cord) {
        return cord >= 0 && cord < w.cords.size();
    }

    private void step() {
        w.steps.add(w.burning.copy());
        if (w.steps.size() > 30) w.steps.remove(0);
    }

    private void line(int cord, int what, int end) {
        w.burning.book.add(new int[] {w.burning.sparks, cord, what, end});
        if (w.burning.book.size() > 30) w.burning.book.remove(0);
    }

    private int spark() {
        Burning b = w.burning;
        int gone = 0;
        b.sparks++;
        b.lit = 0;
        for (int c = 0; c < b.rest.size(); c++) {
            for (int e = 0; e < 2; e++) {
                if (b.ends.get(c)[e] && b.rest.get(c) > 0) b.rest.set(c, b.rest.get(c) - 1);
            }
            if (b.rest.get(c) == 0 && (b.ends.get(c)[0] || b.ends.get(c)[1])) {
                b.ends.set(c, new boolean[2]);
                line(c, 3, 0);
                gone++;
            }
        }
        return gone;
    }

    private int draw() {
        int x = w.burning.x;
        w.burning.x = (x * 569 + 439) % 30781;
        return x;
    }

    private int doLight(int cord, boolean right, boolean step) {
        Burning b = w.burning;
        int e = right ? 1 : 0;
        if (!isCord(cord) || b.rest.get(cord) == 0 || b.ends.get(cord)[e] || b.lit >= w.hands) return -1;
        if (law(cord, right, true) <= 0) return -1;
        int fails = law(cord, right, false);
        if (step) step();
        boolean fizzles = draw() % 10 < fails;
        b.lit++;
        if (!fizzles) b.ends.get(cord)[e] = true;
        line(cord, fizzles ? 1 : 0, e);
        return fizzles ? 0 : 1;
    }

    private boolean doSnuff(int cord, boolean right, boolean step) {
        int e = right ? 1 : 0;
        if (!isCord(cord) || !w.burning.ends.get(cord)[e]) return false;
        if (step) step();
        w.burning.ends.get(cord)[e] = false;
        line(cord, 2, e);
        return true;
    }

    private boolean doRenew(int cord, boolean step) {
        if (!isCord(cord)) return false;
        boolean[] ends = w.burning.ends.get(cord);
        if (w.burning.rest.get(cord) == w.cords.get(cord)[0] * 64 && !ends[0] && !ends[1]) return false;
        if (step) step();
        w.burning.rest.set(cord, w.cords.get(cord)[0] * 64);
        w.burning.ends.set(cord, new boolean[2]);
        return true;
    }

    private int doBurn(boolean step) {
        if (is(3) == 0) return -1;
        Burning before = w.burning;
        w.burning = before.copy();
        int n = 0;
        int gone = 0;
        while (gone == 0) {
            gone = spark();
            n++;
        }
        Burning behind = w.burning;
        w.burning = before;
        if (behind.sparks > 639936) return -1;
        if (step) step();
        w.burning = behind;
        return n;
    }

    int light(int cord, boolean right) {
        return doLight(cord, right, true);
    }

    boolean snuff(int cord, boolean right) {
        return doSnuff(cord, right, true);
    }

    boolean renew(int cord) {
        return doRenew(cord, true);
    }

    int burn() {
        return doBurn(true);
    }

    int minute(int n) {
        if (n < 1 || n > 60 || w.burning.sparks + 64 * n > 639936) return -1;
        int gone = 0;
        for (int i = 0; i < n; i++) {
            step();
            for (int j = 0; j < 64; j++) gone += spark();
        }
        return gone;
    }

    int played(int text) {
        if (text < 0 || text >= w.texts.size()) return -2;
        List<Clause> clauses = w.texts.get(text);
        for (int i = 0; i < clauses.size(); i++) {
            List<Integer> n = clauses.get(i).numbers;
            boolean ok = switch (clauses.get(i).kind) {
                case "cord" -> cord(n.get(0), n.get(1)) >= 0;
                case "hands" -> hands(n.get(0));
                case "left" -> light(n.get(0), false) >= 0;
                case "right" -> light(n.get(0), true) >= 0;
                case "snuff" -> snuff(n.get(0), false) || snuff(n.get(0), true);
                case "renew" -> renew(n.get(0));
                case "burn" -> burn() >= 0;
                case "minute" -> {
                    boolean all = true;
                    for (int k = 0; k < n.get(0); k++) all &= minute(1) >= 0;
                    yield all;
                }
                default -> true;
            };
            if (!ok) return i;
        }
        return -1;
    }

    int shifts(int seed, int n) {
        if (seed < 0 || seed > 9999 || n < 1 || n > 40) return -1;
        step();
        w.burning.x = seed * 2 + 311;
        for (int i = 0; i < n; i++) {
            int x = draw();
            int m = w.cords.size();
            boolean right = x / 7 % 2 == 1;
            switch (x % 7) {
                case 0, 1, 2 -> {
                    if (m > 0) doLight(x % m, right, false);
                }
                case 3 -> {
                    if (m > 0) doSnuff(x % m, right, false);
                }
                case 4 -> {
                    if (m > 0) doRenew(x % m, false);
                }
                case 5 -> doBurn(false);
                default -> {
                    int minutes = 1 + x % 5;
                    if (w.burning.sparks + minutes * 64 <= 639936) {
                        for (int k = 0; k < minutes * 64; k++) spark();
                    }
                }
            }
        }
        return w.burning.sparks;
    }

    int undo() {
        if (w.steps.isEmpty()) return -1;
        Burning b = w.steps.remove(w.steps.size() - 1);
        while (b.rest.size() < w.cords.size()) {
            b.rest.add(w.cords.get(b.rest.size())[0] * 64);
            b.ends.add(new boolean[2]);
        }
        w.burning = b;
        return w.steps.size();
    }

    // ---- asking

    int of(int cord, int what) {
        if (!isCord(cord)) return -1;
        boolean[] e = w.burning.ends.get(cord);
        return switch (what) {
            case 0 -> w.cords.get(cord)[0];
            case 1 -> w.cords.get(cord)[1];
            case 2 -> w.burning.rest.get(cord);
            case 3 -> (e[0] ? 1 : 0) + (e[1] ? 2 : 0);
            case 4 -> w.wet.get(cord) ? 1 : 0;
            default -> -1;
        };
    }

    int is(int what) {
        int ends = 0;
        for (boolean[] e : w.burning.ends) ends += (e[0] ? 1 : 0) + (e[1] ? 1 : 0);
        return switch (what) {
            case 0 -> w.burning.sparks;
            case 1 -> w.burning.x;
            case 2 -> w.burning.lit;
            case 3 -> ends;
            default -> -2;
        };
    }

    int book(int i, int what) {
        if (i == -1) return w.burning.book.size();
        if (i < 0 || i >= w.burning.book.size() || what < 0 || what > 3) return -2;
        return w.burning.book.get(i)[what];
    }

    int foretold(int n, int cord) {
        if (n < 1 || n > 60 || !isCord(cord)) return -1;
        Burning before = w.burning;
        w.burning = before.copy();
        for (int i = 0; i < n * 64; i++) spark();
        int rest = w.burning.rest.get(cord);
        w.burning = before;
        return rest;
    }

    int out(int cord) {
        if (!isCord(cord)) return -1;
        Burning before = w.burning;
        w.burning = before.copy();
        int n = 0;
        while (n <= 4000 && w.burning.rest.get(cord) > 0) {
            spark();
            n++;
        }
        w.burning = before;
        return n > 4000 ? -1 : n;
    }

    // ---- rows

    static final class Row {
        List<Integer> lit = new ArrayList<>();
        List<Integer> times = new ArrayList<>();
    }

    private final Map<String, List<Row>> rowsOf = new HashMap<>();
    private final Map<String, TreeSet<Integer>> spansOf = new HashMap<>();

    private String key(int cords) {
        StringBuilder sb = new StringBuilder();
        for (int c = 0; c < w.cords.size(); c++) sb.append((cords >> c & 1) == 1 ? w.cords.get(c)[0] : 0).append(',');
        return sb.toString();
    }

    private List<Row> rows(int cords) {
        return rowsOf.computeIfAbsent(key(cords), k -> {
            List<Row> all = new ArrayList<>();
            int n = w.cords.size();
            int[] rest = new int[n];
            for (int c = 0; c < n; c++) rest[c] = (cords >> c & 1) == 1 ? w.cords.get(c)[0] * 64 : 0;
            Row row = new Row();
            row.times.add(0);
            extend(rest, new int[n], row, all);
            return all;
        });
    }

    private void extend(int[] rest, int[] ends, Row row, List<Row> all) {
        int n = rest.length;
        int numbers = (int) Math.pow(3, n);
        for (int number = 0; number < numbers; number++) {
            int[] e = ends.clone();
            boolean fine = true;
            int left = number;
            int burning = 0;
            for (int c = 0; c < n; c++) {
                int lit = left % 3;
                left /= 3;
                e[c] += lit;
                if (rest[c] == 0 && lit > 0 || e[c] > 2) fine = false;
                burning += e[c];
            }
            if (!fine) continue;
            if (burning == 0) {
                if (!row.lit.isEmpty()) all.add(row);
                continue;
            }
            int[] r = rest.clone();
            int time = row.times.get(row.times.size() - 1);
            boolean out = false;
            int jump = Integer.MAX_VALUE;
            for (int c = 0; c < n; c++) if (e[c] > 0) jump = Math.min(jump, (r[c] - 1) / e[c]);
            // All but the last SPARK at once, then one.
            for (int c = 0; c < n; c++) r[c] -= jump * e[c];
            time += jump;
            while (!out) {
                time++;
                for (int c = 0; c < n; c++) {
                    r[c] = Math.max(0, r[c] - e[c]);
                    if (e[c] > 0 && r[c] == 0) {
                        e[c] = 0;
                        out = true;
                    }
                }
            }
            Row next = new Row();
            next.lit.addAll(row.lit);
            next.lit.add(number);
            next.times.addAll(row.times);
            next.times.add(time);
            extend(r, e, next, all);
        }
    }

    private TreeSet<Integer> spanSet(int cords) {
        return spansOf.computeIfAbsent(key(cords), k -> {
            TreeSet<Integer> set = new TreeSet<>();
            for (Row row : rows(cords)) {
                for (int i = 0; i < row.times.size(); i++) {
                    for (int j = i + 1; j < row.times.size(); j++) set.add(row.times.get(j) - row.times.get(i));
                }
            }
            set.remove(0);
            return set;
        });
    }

    private boolean isSet(int cords) {
        return cords >= 1 && cords < 1 << w.cords.size();
    }

    int spans(int cords, int i) {
        if (!isSet(cords)) return -2;
        List<Integer> list = new ArrayList<>(spanSet(cords));
        if (i == -1) return list.size();
        return i < 0 || i >= list.size() ? -2 : list.get(i);
    }

    boolean can(int cords, int span) {
        return isSet(cords) && spanSet(cords).contains(span);
    }

    private int best(int span, boolean cheap) {
        int best = -1;
        for (int set = 1; isSet(set); set++) {
            if (!can(set, span)) continue;
            if (best == -1) {
                best = set;
                continue;
            }
            int byCount = Integer.compare(Integer.bitCount(set), Integer.bitCount(best));
            int byPrice = cheap ? Integer.compare(price(set), price(best)) : 0;
            if (byPrice < 0 || byPrice == 0 && byCount < 0) best = set;
        }
        return best;
    }

    private int price(int set) {
        int sum = 0;
        for (int c = 0; c < w.cords.size(); c++) if ((set >> c & 1) == 1) sum += w.cords.get(c)[1];
        return sum;
    }

    int fewest(int span) {
        return best(span, false);
    }

    int cheapest(int span) {
        return best(span, true);
    }

    /** What is lit ahead of the SPAN's end, and behind these the moments of its begin and end. */
    private List<Integer> due(int cords, int span) {
        List<Integer> best = null;
        for (Row row : rows(cords)) {
            for (int j = 1; j < row.times.size(); j++) {
                for (int i = 0; i < j; i++) {
                    if (row.times.get(j) - row.times.get(i) != span) continue;
                    List<Integer> it = new ArrayList<>(row.lit.subList(0, j));
                    it.add(i);
                    it.add(j);
                    if (best == null || before(it, best)) best = it;
                }
            }
        }
        return best;
    }

    private static boolean before(List<Integer> a, List<Integer> b) {
        if (a.size() != b.size()) return a.size() < b.size();
        for (int i = 0; i < a.size() - 2; i++) {
            if (!a.get(i).equals(b.get(i))) return a.get(i) < b.get(i);
        }
        return false;
    }

    int row(int cords, int span, int i) {
        List<Integer> due = isSet(cords) ? due(cords, span) : null;
        if (due == null) return -2;
        int moments = due.size() - 2;
        if (i == -1) return moments;
        return i < 0 || i >= moments ? -2 : due.get(i);
    }

    int between(int cords, int span, boolean last) {
        List<Integer> due = isSet(cords) ? due(cords, span) : null;
        return due == null ? -2 : due.get(due.size() - (last ? 1 : 2));
    }

    int nearest(int cords, int span) {
        if (!isSet(cords) || span < 1 || span > 15360) return -1;
        int best = -1;
        for (int s : spanSet(cords)) if (best == -1 || Math.abs(s - span) < Math.abs(best - span)) best = s;
        return best;
    }

    // ---- bundles, crews, suspects

    int want(int span) {
        if (span == -1) {
            w.wanted.clear();
            return 0;
        }
        if (span < 1 || span > 15360 || w.wanted.size() == 4) return -2;
        w.wanted.add(span);
        return w.wanted.size();
    }

    private int[] bestParts;

    private void share(int i, int[] parts) {
        if (i == w.wanted.size()) {
            if (bestParts == null || better(parts, bestParts)) bestParts = parts.clone();
            return;
        }
        int used = 0;
        for (int k = 0; k < i; k++) used |= parts[k];
        for (int set = 1; isSet(set); set++) {
            if ((set & used) == 0 && can(set, w.wanted.get(i))) {
                parts[i] = set;
                share(i + 1, parts);
            }
        }
    }

    private static int union(int[] parts) {
        int all = 0;
        for (int p : parts) all |= p;
        return all;
    }

    private boolean better(int[] a, int[] b) {
        int ua = union(a);
        int ub = union(b);
        if (price(ua) != price(ub)) return price(ua) < price(ub);
        if (Integer.bitCount(ua) != Integer.bitCount(ub)) return Integer.bitCount(ua) < Integer.bitCount(ub);
        if (ua != ub) return ua < ub;
        return Arrays.compare(a, b) < 0;
    }

    private int[] parts() {
        bestParts = null;
        share(0, new int[w.wanted.size()]);
        return bestParts;
    }

    int bundle(boolean price) {
        int[] parts = parts();
        return parts == null ? -1 : price ? price(union(parts)) : union(parts);
    }

    int part(int i) {
        int[] parts = parts();
        return parts == null || i < 0 || i >= parts.length ? -1 : parts[i];
    }

    /** What comes for the one who begins; turn 0 is its. */
    private int play(int[] sets, int turn, int[] spans) {
        int best = turn == 0 ? -2 : 2;
        for (int c = 0; c < w.cords.size(); c++) {
            if (((sets[0] | sets[1]) >> c & 1) == 1) continue;
            int[] then = sets.clone();
            then[turn] |= 1 << c;
            int v = can(then[turn], spans[turn]) ? (turn == 0 ? 1 : -1) : play(then, 1 - turn, spans);
            best = turn == 0 ? Math.max(best, v) : Math.min(best, v);
        }
        return Math.abs(best) == 2 ? 0 : best;
    }

    int crews(int one, int other) {
        if (one < 1 || one > 15360 || other < 1 || other > 15360) return -2;
        return play(new int[2], 0, new int[] {one, other});
    }

    int take(int one, int other) {
        int due = crews(one, other);
        if (due == -2) return -1;
        for (int c = 0; c < w.cords.size(); c++) {
            int v = can(1 << c, one) ? 1 : play(new int[] {1 << c, 0}, 1, new int[] {one, other});
            if (v == due) return c;
        }
        return -1;
    }

    boolean wet(int cord, boolean is) {
        if (!isCord(cord)) return false;
        w.wet.set(cord, is);
        return true;
    }

    int tried(int cords, boolean failed) {
        if (cords == -1) {
            w.tried.clear();
            return 0;
        }
        if (!isSet(cords) || w.tried.size() == 8) return -2;
        w.tried.add(new int[] {cords, failed ? 1 : 0});
        return w.tried.size();
    }

    private List<Integer> suspectSets(int more, boolean failed) {
        List<Integer> sets = new ArrayList<>();
        for (int set = 0; set < 1 << w.cords.size(); set++) {
            boolean fits = more == 0 || ((set & more) != 0) == failed;
            for (int[] t : w.tried) fits &= ((set & t[0]) != 0) == (t[1] == 1);
            if (fits) sets.add(set);
        }
        return sets;
    }

    int suspects(int what) {
        List<Integer> sets = suspectSets(0, false);
        if (what == 0) return sets.size();
        if (what < 0 || what > 3 || sets.isEmpty()) return -1;
        if (what == 3) return sets.get(0);
        int bits = 0;
        for (int c = 0; c < w.cords.size(); c++) {
            int count = 0;
            for (int set : sets) count += set >> c & 1;
            if (count == (what == 1 ? sets.size() : 0)) bits |= 1 << c;
        }
        return bits;
    }

    int test() {
        if (suspectSets(0, false).size() < 2) return -1;
        int best = -1;
        int most = 0;
        for (int set = 1; isSet(set); set++) {
            int m = Math.max(suspectSets(set, true).size(), suspectSets(set, false).size());
            if (best == -1 || m < most) {
                best = set;
                most = m;
            }
        }
        return best;
    }

    // ---- odds

    private static long lowest(BigInteger upper, BigInteger lower, boolean low) {
        BigInteger g = upper.gcd(lower);
        return (low ? lower : upper).divide(g).longValueExact();
    }

    long right(int lightings, int odds, boolean low) {
        if (lightings < 0 || lightings > 12 || odds < 0 || odds > 10) return -1;
        return lowest(BigInteger.valueOf(10 - odds).pow(lightings), BigInteger.TEN.pow(lightings), low);
    }

    long tries(int lightings, int odds, int times, boolean low) {
        if (lightings < 0 || lightings > 3 || odds < 0 || odds > 10 || times < 1 || times > 4) return -1;
        // One lighting: right at the first, or the second, ..
        BigInteger good = BigInteger.ZERO;
        for (int t = 1; t <= times; t++) {
            BigInteger atT = BigInteger.valueOf(odds).pow(t - 1).multiply(BigInteger.valueOf(10 - odds));
            good = good.add(atT.multiply(BigInteger.TEN.pow(times - t)));
        }
        return lowest(good.pow(lightings), BigInteger.TEN.pow(times * lightings), low);
    }

    int said(int cord, int fails) {
        if (cord == -1) {
            w.said.clear();
            return 0;
        }
        if (!isCord(cord) || fails < 0 || fails > 10 || w.said.size() == 8) return -2;
        w.said.add(new int[] {cord, fails});
        return w.said.size();
    }

    int whose() {
        int bits = 0;
        for (int t = 0; t < w.texts.size(); t++) {
            boolean all = true;
            for (int[] s : w.said) all &= says(t, "fails", s[0], 0) == s[1];
            if (all) bits |= 1 << t;
        }
        return bits;
    }

    int longest() {
        int best = -1;
        for (int c = 0; c < w.cords.size(); c++) {
            int rest = w.burning.rest.get(c);
            if (rest > 0 && (best == -1 || rest > w.burning.rest.get(best))) best = c;
        }
        return best;
    }

    int burning() {
        int bits = 0;
        for (int c = 0; c < w.cords.size(); c++) if (of(c, 3) != 0) bits |= 1 << c;
        return bits;
    }

    int dead() {
        int bits = 0;
        for (int c = 0; c < w.cords.size(); c++) if (of(c, 2) == 0) bits |= 1 << c;
        return bits;
    }

    int ledger(int what) {
        if (what < 0 || what > 3) return -2;
        int count = 0;
        for (int[] line : w.burning.book) if (line[2] == what) count++;
        return count;
    }

    int image() {
        kept = w.copy();
        return w.burning.sparks;
    }

    int back() {
        w = kept.copy();
        return w.burning.sparks;
    }

    int about(int what) {
        return switch (what) {
            case 0 -> w.cords.size();
            case 1 -> w.hands;
            case 2 -> w.texts.size();
            case 3 -> w.ruling;
            case 4 -> w.steps.size();
            case 5 -> w.wanted.size();
            case 6 -> w.tried.size();
            case 7 -> w.said.size();
            case 8 -> tape.size();
            default -> -2;
        };
    }
}
