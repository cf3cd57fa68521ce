/** Promises 1 to 3, 9 to 13, 15 to 17, 19 to 22, 35 and 43 to 49: cords, what is done, what stands then. */
public final class FuseMinutesActs {
    private static final Dues D = new Dues();
    private static final int BIG = Integer.MAX_VALUE;
    private static final int LOW = Integer.MIN_VALUE;

    public static void main(String[] args) {
        newObject();
        cord();
        hands();
        light();
        snuff();
        renew();
        burn();
        oddRest();
        fourInAMinute();
        minute();
        lastMinutes();
        shifts();
        undo();
        of();
        is();
        book();
        foretold();
        out();
        wet();
        longestBurningDead();
        ledger();
        imageAndBack();
        imageHoldsAll();
        about();
        D.end();
    }

    private static void newObject() {
        D.promise(1);
        FuseMinutes x = new FuseMinutes();
        D.due("about(0)", x.about(0), 0);
        D.due("is(0)", x.is(0), 0);
        D.due("is(1)", x.is(1), 311);
        D.due("book(-1, 0)", x.book(-1, 0), 0);
        D.due("undo()", x.undo(), -1);
        D.due("of(0, 0)", x.of(0, 0), -1);
        x.cord(5, 5);
        x.hands(7);
        x.minute(3);
        x.want(64);
        D.due("back()", x.back(), 0);
        D.due("about(0) again", x.about(0), 0);
        D.due("about(1) again", x.about(1), 2);
        D.due("about(4) again", x.about(4), 0);
        D.due("about(5) again", x.about(5), 0);
        D.due("NONE", FuseMinutes.NONE, -1);
    }

    private static void cord() {
        D.promise(2);
        FuseMinutes x = new FuseMinutes();
        int[][] others = {{0, 0}, {61, 0}, {1, -1}, {1, 100}, {-1, 5}, {BIG, 5}, {LOW, 5}, {5, BIG}, {5, LOW}};
        for (int[] o : others) D.due("cord(" + o[0] + ", " + o[1] + ")", x.cord(o[0], o[1]), -1);
        D.due("about(0)", x.about(0), 0);
        D.due("cord(1, 0)", x.cord(1, 0), 0);
        D.due("cord(60, 99)", x.cord(60, 99), 1);
        D.due("cord(7, 3)", x.cord(7, 3), 2);
        D.due("cord(7, 3)", x.cord(7, 3), 3);
        D.due("cord(7, 3), the 5th", x.cord(7, 3), -1);
        D.due("about(0)", x.about(0), 4);
        D.due("of(1, 2)", x.of(1, 2), 3840);
    }

    private static void hands() {
        D.promise(3);
        FuseMinutes x = Dues.with(5, 5);
        D.due("about(1)", x.about(1), 2);
        for (int n : new int[] {0, 9, -1, BIG, LOW}) D.due("hands(" + n + ")", x.hands(n), false);
        D.due("about(1)", x.about(1), 2);
        D.due("hands(8)", x.hands(8), true);
        D.due("about(1)", x.about(1), 8);
        D.due("hands(1)", x.hands(1), true);
        D.due("light(0, false)", x.light(0, false), 1);
        D.due("light(1, false) by one hand", x.light(1, false), -1);
        x.minute(1);
        D.due("light(1, false) at the next moment", x.light(1, false), 1);
    }

    private static void light() {
        D.promise(9);
        FuseMinutes x = Dues.with(1, 2);
        D.due("light(-1, false)", x.light(-1, false), -1);
        D.due("light(2, false)", x.light(2, false), -1);
        D.due("light(big, false)", x.light(BIG, false), -1);
        D.due("light(0, true)", x.light(0, true), 1);
        D.due("of(0, 3)", x.of(0, 3), 2);
        D.due("light(0, true) again", x.light(0, true), -1);
        D.due("light(0, false)", x.light(0, false), 1);
        D.due("hands are full", x.light(1, false), -1);
        D.due("is(1): two draws", x.is(1), draw(draw(311)));
        x.burn();
        D.due("out", x.light(0, false), -1);
        D.due("the next moment", x.light(1, false), 1);

        // 311 mod 10 is 1, so odds of 1 let the first draw pass and odds of 2 don't.
        x = Dues.ruled("fails 1;", 3);
        D.due("1 isn't below 1", x.light(0, false), 1);
        x = Dues.ruled("fails 2;", 3);
        D.due("1 is below 2", x.light(0, false), 0);
        D.due("it burns not", x.of(0, 3), 0);
        D.due("it counts as lit", x.is(2), 1);
        D.due("X went on", x.is(1), 23493);
        D.due("written down: fizzled", x.book(0, 2), 1);
        D.due("3 isn't below 2", x.light(0, false), 1);
        D.due("both hands have been used", x.light(0, true), -1);

        x = Dues.ruled("lights 0;", 3);
        D.due("lights says 0", x.light(0, false), -1);
        D.due("no draw", x.is(1), 311);
        x = Dues.ruled("lights side-cord;", 3, 3);
        D.due("left of 0", x.light(0, false), -1);
        D.due("right of 0", x.light(0, true), 1);
        D.due("right of 1", x.light(1, true), -1);
    }

    private static int draw(int x) {
        return (x * 569 + 439) % 30781;
    }

    private static void snuff() {
        D.promise(10);
        FuseMinutes x = Dues.with(2);
        D.due("snuff(0, false)", x.snuff(0, false), false);
        D.due("snuff(-1, false)", x.snuff(-1, false), false);
        D.due("snuff(1, false)", x.snuff(1, false), false);
        D.due("snuff(low, true)", x.snuff(LOW, true), false);
        x.light(0, false);
        x.light(0, true);
        D.due("snuff(0, true)", x.snuff(0, true), true);
        D.due("of(0, 3)", x.of(0, 3), 1);
        D.due("snuff(0, true) again", x.snuff(0, true), false);
        D.due("snuff frees no hand", x.light(0, true), -1);
        D.due("book(2, 2)", x.book(2, 2), 2);
        D.due("book(2, 3)", x.book(2, 3), 1);
        x.minute(1);
        D.due("of(0, 2)", x.of(0, 2), 64);
    }

    private static void renew() {
        D.promise(11);
        FuseMinutes x = Dues.with(2, 1);
        D.due("renew(0) as new", x.renew(0), false);
        D.due("renew(-1)", x.renew(-1), false);
        D.due("renew(2)", x.renew(2), false);
        x.light(0, false);
        D.due("renew(0) that burns, whole", x.renew(0), true);
        D.due("of(0, 3)", x.of(0, 3), 0);
        D.due("renew isn't written down", x.book(-1, 0), 1);
        D.due("is(2) stays", x.is(2), 1);
        x.light(1, true);
        x.burn();
        D.due("dead()", x.dead(), 2);
        x.wet(1, true);
        D.due("renew(1) that is out", x.renew(1), true);
        D.due("of(1, 2)", x.of(1, 2), 64);
        D.due("WET is told, not burnt", x.of(1, 4), 1);
        x.light(0, false);
        x.minute(1);
        x.snuff(0, false);
        D.due("renew(0) that has not all", x.renew(0), true);
        D.due("of(0, 2)", x.of(0, 2), 128);
    }

    private static void burn() {
        D.promise(12);
        FuseMinutes x = Dues.with(1, 3, 1);
        D.due("burn() of nothing", x.burn(), -1);
        x.hands(8);
        x.light(0, false);
        x.light(1, false);
        x.light(2, false);
        D.due("burn()", x.burn(), 64);
        D.due("two at once", x.dead(), 5);
        D.due("of(1, 2)", x.of(1, 2), 128);
        x.light(1, true);
        D.due("burn() of both ends", x.burn(), 64);
        D.due("burn() of what is out", x.burn(), -1);
        D.due("is(0)", x.is(0), 128);
        D.due("written down, by number", x.book(3, 1) * 10 + x.book(4, 1), 2);
        D.due("at that SPARK", x.book(3, 0), 64);

        x = Dues.with(1, 1, 1);
        x.hands(8);
        x.light(0, false);
        x.light(1, false);
        x.light(1, true);
        D.due("burn()", x.burn(), 32);
        x.light(0, true);
        D.due("burn()", x.burn(), 16);
    }

    /** By halves of halves to a REST of 47, which two ends burn in 24. */
    private static void oddRest() {
        D.promise(12);
        FuseMinutes x = Dues.with(1, 1, 1, 1);
        x.hands(8);
        for (int cord = 0; cord < 4; cord++) x.light(cord, false);
        int[] sparks = {32, 16, 8};
        for (int cord = 0; cord < 3; cord++) {
            x.light(cord, true);
            D.due("burn() of both ends of " + cord, x.burn(), sparks[cord]);
        }
        for (int cord = 0; cord < 3; cord++) x.renew(cord);
        int[] next = {4, 30, 17};
        for (int i = 0; i < 3; i++) {
            x.light((i + 3) % 4, true);
            x.light(i, false);
            D.due("burn() with " + i + " lit", x.burn(), next[i]);
        }
        D.due("of(2, 2)", x.of(2, 2), 47);
        x.light(2, true);
        D.promise(22);
        D.due("out(2)", x.out(2), 24);
        D.promise(21);
        D.due("foretold(1, 2)", x.foretold(1, 2), 0);
        D.promise(13);
        D.due("minute(1)", x.minute(1), 1);
        D.due("out at the 24th", x.book(x.book(-1, 0) - 1, 0), 32 + 16 + 8 + 4 + 30 + 17 + 24);
    }

    /** CORDS of 48, 64, 32, 16 that go out amid one MINUTE, the last three by both ends. */
    private static void fourInAMinute() {
        D.promise(13);
        FuseMinutes x = Dues.with(1, 1, 1, 1);
        x.hands(8);
        for (int cord = 0; cord < 4; cord++) x.light(cord, false);
        x.light(0, true);
        x.burn();
        x.snuff(2, false);
        x.renew(0);
        x.light(0, false);
        x.light(1, true);
        x.burn();
        x.snuff(0, false);
        x.snuff(3, false);
        x.renew(1);
        D.due("rests", x.of(0, 2) * 10000 + x.of(2, 2) * 100 + x.of(3, 2), 483216);
        x.light(0, false);
        for (int cord = 1; cord < 4; cord++) {
            x.light(cord, false);
            x.light(cord, true);
        }
        int sparks = x.is(0);
        int lines = x.book(-1, 0);
        D.due("minute(1)", x.minute(1), 4);
        int[][] due = {{8, 3}, {16, 2}, {32, 1}, {48, 0}};
        for (int i = 0; i < 4; i++) {
            D.due("SPARKS of " + i, x.book(lines + i, 0) - sparks, due[i][0]);
            D.due("CORD of " + i, x.book(lines + i, 1), due[i][1]);
        }
        D.due("is(0)", x.is(0) - sparks, 64);
    }

    private static void minute() {
        D.promise(13);
        FuseMinutes x = Dues.with(1, 2, 5);
        for (int n : new int[] {0, -1, 61, BIG, LOW}) D.due("minute(" + n + ")", x.minute(n), -1);
        D.due("is(0)", x.is(0), 0);
        x.hands(8);
        x.light(0, false);
        x.light(1, false);
        x.light(2, false);
        x.light(2, true);
        D.due("minute(2)", x.minute(2), 2);
        D.due("about(4)", x.about(4), 6);
        D.due("of(2, 2)", x.of(2, 2), 64);
        D.due("is(2)", x.is(2), 0);
        D.due("minute(1)", x.minute(1), 1);
        D.due("book: out amid a minute", x.book(6, 0), 160);
        D.due("minute(60)", x.minute(60), 0);
        D.due("is(0)", x.is(0), 63 * 64);
    }

    private static void lastMinutes() {
        FuseMinutes x = Dues.with(1, 2);
        for (int i = 0; i < 166; i++) x.minute(60);
        x.minute(38);
        D.promise(13);
        D.due("is(0)", x.is(0), 9998 * 64);
        D.due("minute(2) beyond", x.minute(2), -1);
        D.due("nothing is done", x.is(0), 9998 * 64);
        x.light(0, false);
        x.light(1, false);
        D.promise(21);
        D.due("foretold(2, 1) beyond", x.foretold(2, 1), 0);
        D.promise(12);
        x.snuff(0, false);
        D.due("burn() beyond", x.burn(), -1);
        D.due("nothing is done", x.of(1, 2), 128);
        x.light(0, false);
        D.promise(15);
        x.image();
        D.due("shifts pass no more than there are", x.shifts(77, 40) <= 639936, true);
        x.back();
        D.promise(12);
        x.hands(8);
        x.light(0, false);
        D.due("burn() to the last SPARK", x.burn(), 64);
        D.due("is(0)", x.is(0), 639936);
        D.due("burn() beyond", x.burn(), -1);
        D.promise(13);
        D.due("minute(1) beyond", x.minute(1), -1);
        D.promise(16);
        x.undo();
        D.due("is(0)", x.is(0), 9998 * 64);
        D.promise(13);
        D.due("minute(1) to the last", x.minute(1), 1);
        D.promise(14);
        x.undo();
        x.snuff(0, false);
        int text = Dues.text(x, "fails 3; minute 2; hands 5;");
        D.due("played: one of two minutes", x.played(text), 1);
        D.due("the one passed", x.is(0), 639936);
        D.due("hands stay", x.about(1), 8);
    }

    private static void shifts() {
        D.promise(15);
        FuseMinutes x = Dues.with(5, 9);
        int[][] others = {{-1, 1}, {10000, 1}, {5, 0}, {5, 41}, {BIG, 1}, {LOW, 1}, {5, BIG}, {5, LOW}};
        for (int[] o : others) D.due("shifts(" + o[0] + ", " + o[1] + ")", x.shifts(o[0], o[1]), -1);
        D.due("is(1)", x.is(1), 311);
        D.due("about(4)", x.about(4), 0);
        // SEED 0: 311 is 3 mod 7: left (44 is even) of CORD 1 would be snuffed: it isn't, it burns not.
        D.due("shifts(0, 1)", x.shifts(0, 1), 0);
        D.due("is(1)", x.is(1), 23493);
        D.due("about(4)", x.about(4), 1);
        // SEED 1: 313 is 5 mod 7: BURNT, but nothing burns.
        D.due("shifts(1, 1)", x.shifts(1, 1), 0);
        // SEED 5: 321 is 6 mod 7: 1 and 321 mod 5 MINUTES.
        D.due("shifts(5, 1)", x.shifts(5, 1), 128);
        // SEED 2: 315 is 0 mod 7, 45 is odd: the right end of CORD 1 is LIT, by the next draw.
        D.due("shifts(2, 1)", x.shifts(2, 1), 128);
        D.due("of(1, 3)", x.of(1, 3), 2);
        D.due("X by two", x.is(1), draw(draw(315)));
        // SEED 1 once more: now 9 MINUTES of CORD 1 burn.
        D.due("shifts(1, 1)", x.shifts(1, 1), 128 + 576);
        // SEED 4: 319 is 4 mod 7: CORD 1 is RENEWED.
        D.due("shifts(4, 1)", x.shifts(4, 1), 704);
        D.due("of(1, 2)", x.of(1, 2), 576);
        D.due("about(4)", x.about(4), 6);
        D.due("one STEP", x.undo(), 5);
        D.due("of(1, 2)", x.of(1, 2), 0);
        x.undo();
        D.due("is(1) ahead of it", x.is(1), draw(draw(315)));
        // SEED 14: 339 is 3 mod 7, 48 is even: the left end of CORD 1 is SNUFFED.
        x.light(1, false);
        x.shifts(14, 1);
        D.due("of(1, 3)", x.of(1, 3), 2);
        x = Dues.with(5, 9, 3);
        // Kinds 1 and 2: 323 is 1 mod 7, 46 is even; 331 is 2, 47 is odd; CORDS 2 and 1 of 3.
        x.shifts(6, 1);
        D.due("left of CORD 2", x.of(2, 3), 1);
        x.shifts(10, 1);
        D.due("right of CORD 1", x.of(1, 3), 2);
        D.due("HANDS count in shifts", x.is(2), 2);
        x.minute(1);
        // 351 is 1 mod 7, 50 is even: left of CORD 0.
        x.shifts(20, 1);
        D.due("left of CORD 0", x.of(0, 3), 1);
        x.undo();
        x.undo();
        x.shifts(6 + 21, 1);
        D.due("they do", x.burning(), 6);
        x = Dues.with(5);
        x.shifts(2, 1);
        D.due("one CORD", x.of(0, 3), 2);
        x = new FuseMinutes();
        D.due("no CORDS: shifts(2, 1)", x.shifts(2, 1), 0);
        D.due("is(1)", x.is(1), draw(315));
        D.due("no CORDS: shifts(5, 1)", x.shifts(5, 1), 128);
    }

    private static void undo() {
        D.promise(16);
        FuseMinutes x = Dues.with(4);
        x.light(0, false);
        x.minute(2);
        x.snuff(0, false);
        D.due("about(4)", x.about(4), 4);
        D.due("undo() of snuff", x.undo(), 3);
        D.due("of(0, 3)", x.of(0, 3), 1);
        D.due("book(-1, 0)", x.book(-1, 0), 1);
        D.due("undo() of a minute", x.undo(), 2);
        D.due("is(0)", x.is(0), 64);
        D.due("undo() of a minute", x.undo(), 1);
        D.due("is(2): the moment is back", x.is(2), 1);
        x.cord(7, 7);
        x.light(1, false);
        x.cord(3, 3);
        x.undo();
        D.due("CORDS stay", x.about(0), 3);
        D.due("undo() of light", x.undo(), 0);
        D.due("is(1)", x.is(1), 311);
        D.due("of(1, 2)", x.of(1, 2), 448);
        D.due("of(2, 2)", x.of(2, 2), 192);
        D.due("undo() of none", x.undo(), -1);

        // HANDS and what is told are no STEPS; 30 at most; the BOOK comes back whole.
        x = Dues.with(4);
        x.hands(8);
        for (int i = 0; i < 20; i++) {
            x.light(0, false);
            x.snuff(0, false);
            if (i % 4 == 3) x.minute(1);
        }
        D.due("about(4)", x.about(4), 30);
        D.due("book(-1, 0)", x.book(-1, 0), 30);
        int eldest = x.book(0, 0);
        D.due("book(0, 0)", eldest, 64);
        for (int i = 29; i >= 1; i--) D.due("undo()", x.undo(), i);
        D.due("15 lines by 16 STEPS", x.book(-1, 0), 15);
        D.due("undo()", x.undo(), 0);
        D.due("undo()", x.undo(), -1);
        D.due("book(0, 0)", x.book(0, 0), 0);
        D.due("hands stay", x.about(1), 8);
    }

    private static void of() {
        D.promise(17);
        FuseMinutes x = new FuseMinutes();
        x.cord(6, 42);
        x.light(0, true);
        x.minute(1);
        int[] due = {6, 42, 320, 2, 0, -1, -1};
        for (int what = 0; what < due.length; what++) D.due("of(0, " + what + ")", x.of(0, what), due[what]);
        D.due("of(0, -1)", x.of(0, -1), -1);
        D.due("of(1, 0)", x.of(1, 0), -1);
        D.due("of(-1, 0)", x.of(-1, 0), -1);
        D.due("of(big, 0)", x.of(BIG, 0), -1);
        x.light(0, false);
        D.due("of(0, 3)", x.of(0, 3), 3);
    }

    private static void is() {
        D.promise(19);
        FuseMinutes x = Dues.with(6, 6);
        x.light(0, true);
        x.light(1, true);
        D.due("is(0)", x.is(0), 0);
        D.due("is(2)", x.is(2), 2);
        D.due("is(3)", x.is(3), 2);
        x.minute(2);
        D.due("is(0)", x.is(0), 128);
        D.due("is(1)", x.is(1), draw(draw(311)));
        D.due("is(2)", x.is(2), 0);
        D.due("is(3)", x.is(3), 2);
        for (int what : new int[] {-1, 4, BIG, LOW}) D.due("is(" + what + ")", x.is(what), -2);
    }

    private static void book() {
        D.promise(20);
        FuseMinutes x = Dues.with(1, 2);
        D.due("book(-1, 7)", x.book(-1, 7), 0);
        x.light(1, true);
        x.light(0, false);
        x.burn();
        x.snuff(1, true);
        int[][] lines = {{0, 1, 0, 1}, {0, 0, 0, 0}, {64, 0, 3, 0}, {64, 1, 2, 1}};
        D.due("book(-1, 0)", x.book(-1, 0), 4);
        for (int i = 0; i < 4; i++) {
            for (int what = 0; what < 4; what++) D.due("book(" + i + ", " + what + ")", x.book(i, what), lines[i][what]);
        }
        int[][] others = {{4, 0}, {-2, 0}, {0, 4}, {0, -1}, {BIG, 0}, {LOW, 0}};
        for (int[] o : others) D.due("book(" + o[0] + ", " + o[1] + ")", x.book(o[0], o[1]), -2);
        x.minute(1);
        for (int i = 0; i < 14; i++) {
            x.light(1, false);
            x.minute(1);
            x.renew(1);
        }
        D.due("book(-1, 0): CORD 1 went out once", x.book(-1, 0), 19);
        for (int i = 0; i < 14; i++) {
            x.light(1, false);
            x.minute(1);
            x.renew(1);
        }
        D.due("the latest 30", x.book(-1, 0), 30);
        D.due("the eldest of these", x.book(0, 2), 2);
        D.due("the eldest of these", x.book(0, 0), 64);
        D.due("the latest", x.book(29, 0), 29 * 64);
        // Behind the SNUFFED one: LIT in the 2nd MINUTE, LIT and OUT in the 3rd, then LIT in each of the others.
        D.due("book(1, 0)", x.book(1, 0), 128);
        D.due("book(2, 2)", x.book(2, 2), 3);
        for (int i = 3; i < 30; i++) D.due("book(" + i + ", 0)", x.book(i, 0), i * 64);
    }

    private static void foretold() {
        D.promise(21);
        FuseMinutes x = Dues.with(6, 3);
        x.light(0, true);
        x.light(0, false);
        D.due("foretold(1, 0)", x.foretold(1, 0), 256);
        D.due("foretold(3, 0)", x.foretold(3, 0), 0);
        D.due("foretold(60, 0)", x.foretold(60, 0), 0);
        D.due("foretold(60, 1)", x.foretold(60, 1), 192);
        int[][] others = {{0, 0}, {61, 0}, {1, 2}, {1, -1}, {BIG, 0}, {LOW, 0}, {1, BIG}};
        for (int[] o : others) D.due("foretold(" + o[0] + ", " + o[1] + ")", x.foretold(o[0], o[1]), -1);
        D.due("nothing passed", x.is(0), 0);
    }

    private static void out() {
        D.promise(22);
        FuseMinutes x = Dues.with(2, 1, 1);
        D.due("out(0) never", x.out(0), -1);
        for (int cord : new int[] {-1, 3, BIG, LOW}) D.due("out(" + cord + ")", x.out(cord), -1);
        x.light(0, false);
        D.due("out(0)", x.out(0), 128);
        x.light(0, true);
        D.due("out(0)", x.out(0), 64);
        x.burn();
        D.due("out(0) is", x.out(0), 0);
        x = Dues.with(2, 1);
        x.hands(8);
        x.light(1, false);
        x.light(1, true);
        x.light(0, false);
        x.burn();
        x.light(0, true);
        D.due("96 by two ends", x.out(0), 48);
    }

    private static void wet() {
        D.promise(35);
        FuseMinutes x = Dues.with(2, 2);
        D.due("wet(1, true)", x.wet(1, true), true);
        D.due("of(1, 4)", x.of(1, 4), 1);
        D.due("of(0, 4)", x.of(0, 4), 0);
        D.due("wet(1, true)", x.wet(1, true), true);
        D.due("it is lit all the same", x.light(1, true), 1);
        D.due("wet(1, false)", x.wet(1, false), true);
        D.due("of(1, 4)", x.of(1, 4), 0);
        for (int cord : new int[] {-1, 2, 4, BIG, LOW}) D.due("wet(" + cord + ")", x.wet(cord, true), false);
    }

    private static void longestBurningDead() {
        FuseMinutes x = Dues.with(3, 5, 5, 2);
        x.hands(8);
        D.promise(43);
        D.due("longest()", x.longest(), 1);
        D.due("longest() of the first", Dues.with(3, 3, 2).longest(), 0);
        D.promise(44);
        FuseMinutes y = Dues.with(3, 5);
        y.light(0, true);
        D.due("burning()", y.burning(), 1);
        D.promise(43);
        D.due("longest() of none", new FuseMinutes().longest(), -1);
        D.promise(44);
        D.due("burning()", x.burning(), 0);
        D.promise(45);
        D.due("dead()", x.dead(), 0);
        x.light(1, false);
        x.light(3, true);
        D.promise(44);
        D.due("burning()", x.burning(), 10);
        x.minute(1);
        D.promise(43);
        D.due("longest()", x.longest(), 2);
        x.minute(1);
        D.promise(44);
        D.due("burning()", x.burning(), 2);
        D.promise(45);
        D.due("dead()", x.dead(), 8);
        x.snuff(1, false);
        D.promise(43);
        x = Dues.with(1);
        x.light(0, false);
        x.burn();
        D.due("longest() of what is out", x.longest(), -1);
        D.promise(45);
        D.due("dead()", x.dead(), 1);
    }

    private static void ledger() {
        D.promise(46);
        FuseMinutes x = Dues.ruled("fails if time = 0 then 10 else 0 end;", 1);
        x.light(0, false);
        x.light(0, false);
        x.minute(1);
        x.light(0, true);
        x.snuff(0, true);
        x.light(0, true);
        x.burn();
        int[] due = {2, 2, 1, 1};
        for (int what = 0; what < 4; what++) D.due("ledger(" + what + ")", x.ledger(what), due[what]);
        for (int what : new int[] {-1, 4, BIG, LOW}) D.due("ledger(" + what + ")", x.ledger(what), -2);
    }

    private static void imageAndBack() {
        D.promise(47);
        FuseMinutes x = Dues.with(4);
        x.light(0, false);
        x.minute(1);
        D.due("image()", x.image(), 64);
        x.minute(2);
        D.promise(48);
        D.due("back()", x.back(), 64);
        D.due("of(0, 2)", x.of(0, 2), 192);
        D.due("STEPS are so again", x.about(4), 2);
        D.due("undo()", x.undo(), 1);
        D.due("is(0)", x.is(0), 0);
        D.due("back() once more: it stays", x.back(), 64);
        D.due("undo()", x.undo(), 1);
        x.minute(40);
        x.image();
        x.minute(17);
        for (int i = 0; i < 20; i++) x.undo();
        x.back();
        for (int i = 1; i <= 30; i++) {
            x.undo();
            D.due("is(0) behind " + i, x.is(0), (40 - i) * 64);
        }
        D.due("undo()", x.undo(), -1);
        x.back();
        D.promise(47);
        x = Dues.with(4);
        D.due("image()", x.image(), 0);
        x.minute(5);
        D.promise(48);
        D.due("back() to the latest", x.back(), 0);
    }

    private static void imageHoldsAll() {
        D.promise(48);
        FuseMinutes x = Dues.ruled("fails 1;", 4);
        x.wet(0, true);
        x.want(128);
        x.tried(1, true);
        x.said(0, 1);
        x.image();
        x.cord(9, 9);
        D.due("can(2, 576)", x.can(2, 576), true);
        D.due("row(2, 576, 0)", x.row(2, 576, 0), 3);
        x.by(Dues.text(x, "fails 2;"));
        x.hands(5);
        x.wet(0, false);
        x.want(-1);
        x.want(64);
        x.want(256);
        x.tried(-1, false);
        x.tried(2, true);
        x.said(-1, 0);
        x.said(0, 2);
        x.light(0, true);
        D.due("spans(3, -1) of 4 and 9", x.can(3, 832), true);
        Dues.text(x, "fails $");
        Dues.tape(x, "burn;");
        D.due("back()", x.back(), 0);
        int[] due = {1, 2, 1, 0, 0, 1, 1, 1, 5};
        for (int what = 0; what < 9; what++) D.due("about(" + what + ")", x.about(what), due[what]);
        D.due("of(0, 4)", x.of(0, 4), 1);
        D.due("book(-1, 0)", x.book(-1, 0), 0);
        D.due("is(1)", x.is(1), 311);
        D.due("law(0, false, false)", x.law(0, false, false), 1);
        D.due("the latest FAULT stays", x.fault(0) * 100 + x.fault(1), 106);
        D.due("suspects(3)", x.suspects(3), 1);
        D.due("part(0)", x.part(0), 1);
        D.due("whose()", x.whose(), 1);
        D.due("the tape stays", x.text(), 1);
        D.due("another CORD 1", x.cord(3, 3), 1);
        D.due("of(1, 2)", x.of(1, 2), 192);
        D.due("its SPANS are its own", x.can(2, 576), false);
        D.due("its ROWS are its own", x.row(2, 576, 0), -2);
        D.due("its SPANS are its own", x.can(3, 832), false);
        D.due("its SPANS are its own", x.can(3, 448), true);
        D.due("undo() of none", x.undo(), -1);
    }

    private static void about() {
        D.promise(49);
        FuseMinutes x = new FuseMinutes();
        int[] first = {0, 2, 0, -1, 0, 0, 0, 0, 0};
        for (int what = 0; what < 9; what++) D.due("about(" + what + ")", x.about(what), first[what]);
        x = Dues.ruled("fails 1;", 4, 5, 6);
        Dues.text(x, "burn;");
        x.hands(4);
        x.minute(7);
        x.want(64);
        x.want(64);
        for (int i = 0; i < 6; i++) x.tried(7, true);
        for (int i = 0; i < 5; i++) x.said(0, 1);
        x.feed(1, 2, 3, 4, 5);
        int[] due = {3, 4, 2, 0, 7, 2, 6, 5, 20};
        for (int what = 0; what < 9; what++) D.due("about(" + what + ")", x.about(what), due[what]);
        for (int what : new int[] {-1, 9, BIG, LOW}) D.due("about(" + what + ")", x.about(what), -2);
    }
}
