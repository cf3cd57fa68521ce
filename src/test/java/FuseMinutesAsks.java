/** Promises 23 to 34 and 36 to 40: rows, bundles, crews, suspects, odds. */
public final class FuseMinutesAsks {
    private static final Dues D = new Dues();
    private static final int BIG = Integer.MAX_VALUE;
    private static final int LOW = Integer.MIN_VALUE;

    public static void main(String[] args) {
        spans();
        can();
        fewestAndCheapest();
        row();
        between();
        nearest();
        want();
        bundle();
        crews();
        tried();
        suspects();
        test();
        right();
        tries();
        nothingChanges();
        D.end();
    }

    private static void spans() {
        D.promise(23);
        FuseMinutes x = Dues.with(1, 2);
        int[] one = {32, 64};
        // 0 both: 32; then 1, of which one end burnt: 96 by one, 48 by two; or as new: 128, 64. Or 0 by one end,
        // 1 by one: 64, its 64 by one, 32 by two; 1 by two: both out at 64. Or 1 first, and 0 behind it.
        int[] both = {32, 48, 64, 80, 96, 128, 160, 192};
        D.due("spans(1, -1)", x.spans(1, -1), 2);
        for (int i = 0; i < one.length; i++) D.due("spans(1, " + i + ")", x.spans(1, i), one[i]);
        D.due("spans(1, 2)", x.spans(1, 2), -2);
        D.due("spans(3, -1)", x.spans(3, -1), both.length);
        for (int i = 0; i < both.length; i++) D.due("spans(3, " + i + ")", x.spans(3, i), both[i]);
        int[][] others = {{0, -1}, {4, -1}, {-1, -1}, {BIG, -1}, {LOW, 0}, {3, -2}, {3, 8}, {3, BIG}, {3, LOW}};
        for (int[] o : others) D.due("spans(" + o[0] + ", " + o[1] + ")", x.spans(o[0], o[1]), -2);
        D.due("of no CORDS", new FuseMinutes().spans(1, -1), -2);
        x = Dues.with(60, 60, 60, 60);
        D.due("the longest of all", x.spans(15, x.spans(15, -1) - 1), 15360);
        D.due("how many of four like ones", x.spans(15, -1), 34);
        x = Dues.with(60, 59, 58, 57);
        D.due("how many of four", x.spans(15, -1), 854);
    }

    private static void can() {
        D.promise(24);
        FuseMinutes x = Dues.with(60, 60, 7);
        D.due("60 minutes", x.can(1, 3840), true);
        D.due("30 minutes", x.can(1, 1920), true);
        D.due("45 minutes of one", x.can(1, 2880), false);
        D.due("45 minutes of two", x.can(3, 2880), true);
        D.due("15 minutes of two", x.can(3, 960), true);
        D.due("7 minutes of others", x.can(3, 448), false);
        D.due("7 minutes of a larger set", x.can(6, 448), true);
        int[][] others = {{0, 448}, {8, 448}, {-1, 448}, {BIG, 448}, {LOW, 448}, {7, 0}, {7, -64}, {7, 15361}, {7, BIG}, {7, LOW}};
        for (int[] o : others) D.due("can(" + o[0] + ", " + o[1] + ")", x.can(o[0], o[1]), false);
        x.light(0, false);
        x.burn();
        D.due("as new, though it is out", x.can(1, 3840), true);
    }

    private static void fewestAndCheapest() {
        FuseMinutes x = new FuseMinutes();
        D.promise(25);
        D.due("of no CORDS", x.fewest(64), -1);
        D.promise(26);
        D.due("of no CORDS", x.cheapest(64), -1);
        x.cord(4, 50);
        x.cord(2, 10);
        x.cord(2, 20);
        x.cord(4, 31);
        D.promise(25);
        D.due("fewest(256)", x.fewest(256), 1);
        D.due("fewest(64): 2 by both ends", x.fewest(64), 2);
        D.due("fewest(384)", x.fewest(384), 3);
        D.due("fewest(100)", x.fewest(100), -1);
        for (int span : new int[] {0, -1, 15361, BIG, LOW}) D.due("fewest(" + span + ")", x.fewest(span), -1);
        D.promise(26);
        D.due("cheapest(256): 1 and 2 behind one another", x.cheapest(256), 6);
        D.due("cheapest(128): 2 minutes", x.cheapest(128), 2);
        D.due("cheapest(384)", x.cheapest(384), 10);
        D.due("cheapest(100)", x.cheapest(100), -1);
        for (int span : new int[] {0, -1, 15361, BIG, LOW}) D.due("cheapest(" + span + ")", x.cheapest(span), -1);
        FuseMinutes y = new FuseMinutes();
        y.cord(2, 10);
        y.cord(2, 20);
        y.cord(4, 30);
        D.due("of like ones the fewest", y.cheapest(256), 4);
        D.due("by all of them", y.cheapest(512), 7);
        D.promise(25);
        D.due("by all of them", y.fewest(512), 7);
        D.promise(26);
        FuseMinutes z = new FuseMinutes();
        z.cord(2, 0);
        z.cord(2, 0);
        z.cord(2, 0);
        D.due("then the lowest set", z.cheapest(256), 3);
        D.due("no more than it takes", z.cheapest(128), 1);
    }

    private static void dueRow(FuseMinutes x, int cords, int span, int begins, int... lit) {
        D.promise(27);
        String call = "row(" + cords + ", " + span + ", ";
        D.due(call + "-1)", x.row(cords, span, -1), lit.length);
        for (int i = 0; i < lit.length; i++) D.due(call + i + ")", x.row(cords, span, i), lit[i]);
        D.due(call + lit.length + ")", x.row(cords, span, lit.length), -2);
        D.promise(28);
        D.due("between(" + cords + ", " + span + ", false)", x.between(cords, span, false), begins);
        D.due("between(" + cords + ", " + span + ", true)", x.between(cords, span, true), lit.length);
    }

    private static void row() {
        FuseMinutes x = Dues.with(1, 2, 60);
        dueRow(x, 1, 64, 0, 1);
        dueRow(x, 1, 32, 0, 2);
        dueRow(x, 3, 64, 0, 1);
        dueRow(x, 2, 64, 0, 6);
        dueRow(x, 3, 48, 1, 5, 3);
        dueRow(x, 3, 96, 0, 2, 6);
        dueRow(x, 3, 160, 0, 2, 3);
        dueRow(x, 3, 192, 0, 1, 3);
        dueRow(x, 3, 80, 0, 5, 3);
        FuseMinutes y = Dues.with(60, 60);
        dueRow(y, 3, 2880, 0, 5, 3);
        dueRow(y, 3, 960, 1, 5, 3);
        FuseMinutes z = Dues.with(1, 1, 1, 1);
        dueRow(z, 15, 256, 0, 1, 3, 9, 27);
        dueRow(z, 15, 4, 3, 41, 3, 9, 27);
        D.promise(27);
        int[][] others = {{0, 64, -1}, {8, 64, -1}, {-1, 64, -1}, {BIG, 64, 0}, {3, 63, -1}, {3, 0, -1}, {3, -1, -1},
            {3, 15361, 0}, {3, BIG, 0}, {3, LOW, 0}, {3, 64, -2}, {3, 64, BIG}, {3, 64, LOW}};
        for (int[] o : others) D.due("row(" + o[0] + ", " + o[1] + ", " + o[2] + ")", x.row(o[0], o[1], o[2]), -2);
        D.due("another one amid them", x.row(3, 160, 1), 3);
        x.spans(7, -1);
        D.due("and again", x.row(3, 160, 0), 2);
        x.spans(5, -1);
        D.due("of a set that can't", x.row(1, 160, -1), -2);
        D.due("of a set that can't", x.row(2, 160, -1), -2);
    }

    private static void between() {
        D.promise(28);
        FuseMinutes x = Dues.with(1, 2);
        int[][] others = {{0, 64}, {4, 64}, {-1, 64}, {BIG, 64}, {3, 63}, {3, 0}, {3, 15361}, {3, LOW}};
        for (int[] o : others) {
            D.due("between(" + o[0] + ", " + o[1] + ", false)", x.between(o[0], o[1], false), -2);
            D.due("between(" + o[0] + ", " + o[1] + ", true)", x.between(o[0], o[1], true), -2);
        }
    }

    private static void nearest() {
        D.promise(29);
        FuseMinutes x = Dues.with(1, 2);
        int[][] due = {{1, 32}, {32, 32}, {40, 32}, {41, 48}, {56, 48}, {57, 64}, {88, 80}, {144, 128}, {145, 160}, {193, 192}, {15360, 192}};
        for (int[] d : due) D.due("nearest(3, " + d[0] + ")", x.nearest(3, d[0]), d[1]);
        D.due("nearest(2, 96)", x.nearest(2, 96), 64);
        int[][] others = {{3, 0}, {3, -1}, {3, 15361}, {3, BIG}, {3, LOW}, {0, 64}, {4, 64}, {-1, 64}, {BIG, 64}, {LOW, 64}};
        for (int[] o : others) D.due("nearest(" + o[0] + ", " + o[1] + ")", x.nearest(o[0], o[1]), -1);
        D.due("far off", Dues.with(60).nearest(1, 1), 1920);
        FuseMinutes y = Dues.with(60, 59, 13);
        int i = 0;
        for (int span = 1; span <= 9000; span += 21) {
            int count = y.spans(7, -1);
            while (i + 1 < count && y.spans(7, i + 1) - span < span - y.spans(7, i)) i++;
            D.due("nearest(7, " + span + ")", y.nearest(7, span), y.spans(7, i));
        }
    }

    private static void want() {
        D.promise(30);
        FuseMinutes x = new FuseMinutes();
        for (int span : new int[] {0, -2, 15361, BIG, LOW}) D.due("want(" + span + ")", x.want(span), -2);
        D.due("want(1)", x.want(1), 1);
        D.due("want(15360)", x.want(15360), 2);
        D.due("want(1)", x.want(1), 3);
        D.due("want(5)", x.want(5), 4);
        D.due("the 5th", x.want(5), -2);
        D.due("about(5)", x.about(5), 4);
        D.due("want(-1)", x.want(-1), 0);
        D.due("about(5)", x.about(5), 0);
        D.due("want(7)", x.want(7), 1);
    }

    private static FuseMinutes wanting(int[][] cords, int... spans) {
        FuseMinutes x = new FuseMinutes();
        for (int[] c : cords) x.cord(c[0], c[1]);
        for (int s : spans) x.want(s);
        return x;
    }

    private static void dueBundle(FuseMinutes x, int cords, int price, int... parts) {
        D.promise(31);
        D.due("bundle(false)", x.bundle(false), cords);
        D.due("bundle(true)", x.bundle(true), price);
        D.promise(32);
        for (int i = 0; i < parts.length; i++) D.due("part(" + i + ")", x.part(i), parts[i]);
        D.due("part(-1)", x.part(-1), -1);
        D.due("part(4)", x.part(4), -1);
        D.due("part(big)", x.part(BIG), -1);
        D.due("part(" + parts.length + ")", x.part(parts.length), -1);
    }

    private static void bundle() {
        int[][] like = {{2, 5}, {2, 5}, {2, 5}, {2, 5}};
        dueBundle(wanting(like), 0, 0);
        dueBundle(new FuseMinutes(), 0, 0);
        dueBundle(wanting(like, 128), 1, 5, 1);
        dueBundle(wanting(like, 128, 64), 3, 10, 1, 2);
        dueBundle(wanting(like, 128, 128, 128, 128), 15, 20, 1, 2, 4, 8);
        dueBundle(wanting(like, 256, 256), 15, 20, 3, 12);
        dueBundle(wanting(like, 256, 128, 128), 15, 20, 3, 4, 8);
        dueBundle(wanting(like, 128, 256), 7, 15, 1, 6);
        dueBundle(wanting(like, 256, 256, 128), -1, -1, -1, -1, -1);
        dueBundle(wanting(like, 63), -1, -1, -1);
        // 4 minutes: CORD 0, or both of the cheap ones behind one another.
        int[][] unlike = {{4, 9}, {2, 3}, {2, 3}, {1, 50}};
        dueBundle(wanting(unlike, 256), 6, 6, 6);
        dueBundle(wanting(unlike, 256, 128), 3, 12, 1, 2);
        dueBundle(wanting(unlike, 128, 256), 3, 12, 2, 1);
        dueBundle(wanting(unlike, 128, 128), 6, 6, 2, 4);
        // Of like PRICE the fewest: CORD 2 alone.
        int[][] priced = {{2, 3}, {2, 3}, {4, 6}};
        dueBundle(wanting(priced, 256), 4, 6, 4);
        // 64 and 128 by 1 and 2 minutes or by 2 and 2: the lowest set, then the lowest part.
        int[][] ways = {{2, 4}, {2, 4}, {1, 4}};
        dueBundle(wanting(ways, 64, 128), 3, 8, 1, 2);
        dueBundle(wanting(ways, 128, 64), 3, 8, 1, 2);
        dueBundle(wanting(ways, 32, 64), 5, 8, 4, 1);
    }

    private static void crews() {
        D.promise(33);
        FuseMinutes x = new FuseMinutes();
        D.due("no CORDS", x.crews(64, 64), 0);
        D.promise(34);
        D.due("no CORDS", x.take(64, 64), -1);
        x = Dues.with(4, 9, 9);
        int[][] others = {{0, 64}, {64, 0}, {-1, 64}, {64, -1}, {15361, 64}, {64, 15361}, {BIG, 64}, {LOW, 64}, {64, BIG}, {64, LOW}};
        for (int[] o : others) {
            D.promise(33);
            D.due("crews(" + o[0] + ", " + o[1] + ")", x.crews(o[0], o[1]), -2);
            D.promise(34);
            D.due("take(" + o[0] + ", " + o[1] + ")", x.take(o[0], o[1]), -1);
        }
        dueCrews(x, 256, 576, 1, 0);
        // Even by the short one first: the other one can't take both of 9 minutes.
        dueCrews(x, 576, 256, 1, 0);
        // 1152 is both of 9 minutes: the first takes one, the other one takes the other: nobody.
        dueCrews(x, 1152, 1152, 0, 0);
        // 3 like ones: the one who begins gets two of them.
        dueCrews(Dues.with(9, 9, 9), 1152, 1152, 1, 0);
        // The other one has it by any CORD, the first needs two.
        dueCrews(Dues.with(9, 9, 9), 1152, 576, -1, 0);
        // It takes what the other one wants.
        dueCrews(Dues.with(4, 9), 832, 576, 0, 1);
        dueCrews(Dues.with(4, 9, 2), 15360, 576, 0, 1);
        dueCrews(Dues.with(9, 9, 9, 9), 100, 2304, 0, 0);
        dueCrews(Dues.with(9, 9, 9, 9), 100, 1152, -1, 0);
        dueCrews(Dues.with(9, 9, 9, 9), 1152, 1152, 1, 0);
        dueCrews(Dues.with(5), 100, 320, 0, 0);
    }

    private static void dueCrews(FuseMinutes x, int one, int other, int outcome, int cord) {
        D.promise(33);
        D.due("crews(" + one + ", " + other + ")", x.crews(one, other), outcome);
        D.promise(34);
        D.due("take(" + one + ", " + other + ")", x.take(one, other), cord);
    }

    private static void tried() {
        D.promise(36);
        FuseMinutes x = Dues.with(1, 1, 1);
        for (int cords : new int[] {0, 8, -2, BIG, LOW}) D.due("tried(" + cords + ")", x.tried(cords, true), -2);
        for (int i = 1; i <= 8; i++) D.due("tried(7, false)", x.tried(i % 7 + 1, i < 3), i);
        D.due("the 9th", x.tried(1, true), -2);
        D.due("about(6)", x.about(6), 8);
        D.due("tried(-1, true)", x.tried(-1, true), 0);
        D.due("tried(7, true)", x.tried(7, true), 1);
        D.due("of no CORDS", new FuseMinutes().tried(1, true), -2);
    }

    private static void dueSuspects(FuseMinutes x, int... due) {
        D.promise(37);
        for (int what = 0; what < 4; what++) D.due("suspects(" + what + ")", x.suspects(what), due[what]);
        D.promise(38);
        D.due("test()", x.test(), due[4]);
    }

    private static void suspects() {
        D.promise(37);
        FuseMinutes x = Dues.with(1, 1, 1);
        for (int what : new int[] {-1, 4, BIG, LOW}) D.due("suspects(" + what + ")", x.suspects(what), -1);
        dueSuspects(x, 8, 0, 0, 0, 1);
        x.wet(0, true);
        dueSuspects(x, 8, 0, 0, 0, 1);
        x.tried(3, true);
        dueSuspects(x, 6, 0, 0, 1, 4);
        x.tried(4, false);
        dueSuspects(x, 3, 0, 4, 1, 1);
        x.tried(2, false);
        dueSuspects(x, 1, 1, 6, 1, -1);
        x.tried(6, true);
        dueSuspects(x, 0, -1, -1, -1, -1);
        x.tried(-1, false);
        x.tried(5, true);
        x.tried(6, true);
        dueSuspects(x, 5, 0, 0, 3, 1);
        x.cord(1, 1);
        dueSuspects(x, 10, 0, 0, 3, 8);
        dueSuspects(new FuseMinutes(), 1, 0, 0, 0, -1);
        dueSuspects(Dues.with(1), 2, 0, 0, 0, 1);
    }

    private static void test() {
        D.promise(38);
        FuseMinutes x = Dues.with(1);
        D.due("test() of one CORD", x.test(), 1);
        x = Dues.with(1, 1, 1);
        x.tried(1, true);
        D.due("test() of what is open yet", x.test(), 2);
        x.tried(2, true);
        D.due("test() of what is open yet", x.test(), 4);
        x = Dues.with(1, 1, 1, 1);
        x.tried(3, true);
        D.due("6 of 12 rather than 8", x.test(), 4);
        x = Dues.with(1, 1, 1, 1);
        // Each of two apart halves what is left; of such the lowest.
        D.due("test() of four", x.test(), 1);
        x.tried(1, true);
        D.due("test()", x.test(), 2);
        x.tried(14, true);
        // 7 sets are left, of which CORD 1 has 4.
        D.due("test()", x.test(), 2);
        x.tried(2, false);
        D.due("test()", x.test(), 4);
    }

    private static void right() {
        D.promise(39);
        FuseMinutes x = new FuseMinutes();
        long[][] due = {{0, 0, 1, 1}, {0, 10, 1, 1}, {1, 0, 1, 1}, {1, 10, 0, 1}, {12, 10, 0, 1}, {1, 5, 1, 2}, {3, 5, 1, 8},
            {1, 4, 3, 5}, {2, 4, 9, 25}, {12, 7, 531441, 1000000000000L}, {12, 3, 13841287201L, 1000000000000L},
            {12, 1, 282429536481L, 1000000000000L}, {12, 8, 1, 244140625}};
        for (long[] d : due) {
            D.due("right(" + d[0] + ", " + d[1] + ", false)", x.right((int) d[0], (int) d[1], false), d[2]);
            D.due("right(" + d[0] + ", " + d[1] + ", true)", x.right((int) d[0], (int) d[1], true), d[3]);
        }
        int[][] others = {{-1, 5}, {13, 5}, {5, -1}, {5, 11}, {BIG, 5}, {LOW, 5}, {5, BIG}, {5, LOW}};
        for (int[] o : others) {
            D.due("right(" + o[0] + ", " + o[1] + ", false)", x.right(o[0], o[1], false), -1);
            D.due("right(" + o[0] + ", " + o[1] + ", true)", x.right(o[0], o[1], true), -1);
        }
    }

    private static void tries() {
        D.promise(40);
        FuseMinutes x = new FuseMinutes();
        long[][] due = {{0, 7, 3, 1, 1}, {1, 0, 4, 1, 1}, {3, 10, 4, 0, 1}, {1, 3, 2, 91, 100}, {2, 3, 2, 8281, 10000},
            {1, 2, 3, 124, 125}, {1, 5, 4, 15, 16}, {3, 5, 4, 3375, 4096}, {3, 9, 4, 40672093519L, 1000000000000L},
            {0, 10, 1, 1, 1}, {3, 5, 1, 1, 8}};
        for (long[] d : due) {
            String call = "tries(" + d[0] + ", " + d[1] + ", " + d[2];
            D.due(call + ", false)", x.tries((int) d[0], (int) d[1], (int) d[2], false), d[3]);
            D.due(call + ", true)", x.tries((int) d[0], (int) d[1], (int) d[2], true), d[4]);
        }
        int[][] others = {{-1, 5, 1}, {4, 5, 1}, {1, -1, 1}, {1, 11, 1}, {1, 5, 0}, {1, 5, 5}, {BIG, 5, 1}, {LOW, 5, 1},
            {1, BIG, 1}, {1, LOW, 1}, {1, 5, BIG}, {1, 5, LOW}};
        for (int[] o : others) D.due("tries(" + o[0] + ", " + o[1] + ", " + o[2] + ")", x.tries(o[0], o[1], o[2], true), -1);
    }

    private static void nothingChanges() {
        D.promise(23);
        FuseMinutes x = Dues.ruled("lights 0;", 4, 9);
        x.hands(1);
        x.wet(0, true);
        D.due("HANDS, laws, WET aside", x.can(3, 704), true);
        x.row(3, 704, 0);
        x.crews(704, 704);
        x.bundle(true);
        D.due("of(0, 2)", x.of(0, 2), 256);
        D.due("is(0)", x.is(0), 0);
        D.due("is(1)", x.is(1), 311);
        D.due("about(4)", x.about(4), 0);
    }
}
