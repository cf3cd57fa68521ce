/** The sentences under Terms: CORDS, HANDS, SPARKS, BOOK, what is done, STEPS. */
final class EdgesOfTerms {
    /** By three CORDS of a MINUTE, three HANDS at least: 129 SPARKS pass, a MINUTE's edge and one more; CORD 2 is out then. */
    static final String BURNS_129 = "hands 8;left 1;left 2;right 2;burn;renew 2;right 1;left 2;burn;renew 1;left 0;left 1;right 2;burn;"
        + "renew 2;right 1;burn;renew 1;right 0;left 2;burn;renew 0;right 2;burn;";
    /** By three CORDS of a MINUTE and three HANDS 127 SPARKS pass, one less than two MINUTES; CORDS 0 and 2 are out then. */
    static final String BURNS_127 = "left 1;left 2;right 2;burn;renew 2;left 0;right 1;left 2;burn;renew 1;snuff 0;left 1;right 2;burn;"
        + "renew 2;right 1;left 2;burn;renew 1;left 0;right 2;burn;right 0;burn;";
    private final Edges e;

    EdgesOfTerms(Edges edges) {
        e = edges;
    }

    /** Lines by which so many MINUTES have passed; a TEXT takes fewer calls than as many by hand. It is TEXT 0. */
    static String late(int minutes) {
        String hours = "text \"" + "minute 60;".repeat(24) + "\" = 0\n";
        String last = minutes % 60 == 0 ? "" : "minute(" + minutes % 60 + ") = 0\n";
        return hours + minutes / 1440 + " x played(0) = -1\n" + minutes % 1440 / 60 + " x minute(60) = 0\n" + last;
    }

    void all() {
        cords();
        restAndEnds();
        handsAndSparks();
        bookAndX();
        sparkBySpark();
        moments();
        lit();
        drawn();
        snuffedAndRenewed();
        passing();
        whichAreSteps();
        stepsTakenBack();
        cordsToldSince();
    }

    private void cords() {
        e.edge("Terms", "CORDS 0 .. 3 (told one by one)", """
            about(0) = 0
            of({-1, 0, 1, BIG, LOW}, 0) = -1 !
            cord(5, 1) = 0
            of({-1, 1}, 0) = -1 !
            cord(6, 1) = 1
            cord(7, 1) = 2
            of(3, 0) = -1 !
            about(0) = 3
            cord(8, 1) = 3
            of(0..3, 0) = 5 6 7 8
            cord(9, 1) = -1 !
            about(0) = 4
            of({-1, 4, BIG, LOW}, 0) = -1 !
            """);
        e.edge("Terms", "MINUTES 1 .. 60", """
            cord({0, -1, 61, 62, BIG, LOW}, 5) = -1 !
            cord({1, 2, 59, 60}, 5) = 0 1 2 3
            of(0..3, 0) = 1 2 59 60
            """);
        e.edge("Terms", "PRICE 0 .. 99", """
            cord(5, {-1, -2, 100, 101, BIG, LOW}) = -1 !
            cord(5, {0, 1, 98, 99}) = 0 1 2 3
            of(0..3, 1) = 0 1 98 99
            """);
    }

    private void restAndEnds() {
        e.edge("Terms", "REST in SPARKS, 64 a MINUTE (at first all)", """
            cord({1, 2, 60}, 0) = 0 1 2
            of(0..2, 2) = 64 128 3840
            """);
        e.edge("Terms", "ends left and right that burn or not (at first not)", """
            cord(5, 0) = 0
            of(0, 3) = 0
            is(3) = 0
            burning() = 0
            snuff(0, {false, true}) = false !
            light(0, true) = 1
            of(0, 3) = 2
            light(0, false) = 1
            of(0, 3) = 3
            snuff(0, true) = true
            of(0, 3) = 1
            """);
    }

    private void handsAndSparks() {
        e.edge("Terms", "HANDS 1 .. 8 (told; at first 2)", """
            about(1) = 2
            hands({0, -1, 9, 10, BIG, LOW}) = false !
            hands(8) = true
            about(1) = 8
            hands(7) = true
            hands(1) = true
            about(1) = 1
            hands({0, 9}) = false !
            hands(2) = true
            about(1) = 2
            """);
        e.edge("Terms", "SPARKS 0 .. 639936 (9999 MINUTES; at first 0)", """
            is(0) = 0
            minute(1) = 0
            is(0) = 64
            new
            """ + late(9998) + """
            is(0) = 639872
            minute(2) = -1 !
            minute(1) = 0
            is(0) = 639936
            minute(1) = -1 !
            """);
    }

    private void bookAndX() {
        e.edge("Terms", "X: at first 311", """
            is(1) = 311
            cord(5, 1) = 0
            minute(1) = 0
            is(1) = 311
            light(0, false) = 1
            is(1) = 23493
            """);
        // A line each by light and snuff; a MINUTE between them tells one pair from the next.
        String pair = "light(0, false) = 1\nsnuff(0, false) = true\nminute(1) = 0\n";
        e.edge("Terms", "BOOK (the latest 30): SPARKS, CORD, what, end", "cord(60, 0) = 0\nbook(-1, 0) = 0\n" + pair.repeat(14) + """
            light(0, true) = 1
            book(-1, 0) = 29
            book(0, 0..3) = 0 0 0 0
            book(28, 0..3) = 896 0 0 1
            book(29, 0..3) = -2
            snuff(0, true) = true
            book(-1, 0) = 30
            book(0, 0..3) = 0 0 0 0
            book(29, 0..3) = 896 0 2 1
            minute(1) = 0
            light(0, true) = 1
            book(-1, 0) = 30
            book(0, 0..3) = 0 0 2 0
            book(1, 0..3) = 64 0 0 0
            book(28, 0..3) = 896 0 2 1
            book(29, 0..3) = 960 0 0 1
            book(30, 0..3) = -2
            undo() = 29
            book(-1, 0) = 30
            book(0, 0..3) = 0 0 0 0
            """);
    }

    private void sparkBySpark() {
        e.edge("Terms", "Each SPARK REST of each CORD is less by as many as its ends burn (0 at least)", """
            cord({5, 5, 5}, 0)
            hands(8)
            light(1, false) = 1
            light(2, {false, true}) = 1
            minute(1) = 0
            of(0..2, 2) = 320 256 192
            minute(1) = 0
            of(0..2, 2) = 320 192 64
            minute(1) = 1
            of(0..2, 2) = 320 128 0     // two MINUTES by two ends would be less than 0
            book(3, 0) = 160
            minute(1) = 0
            of(0..2, 2) = 320 64 0
            new                         // A REST of 1 that two ends burn
            cord({1, 1, 1, 2}, 0)
            hands(8)
            light(3, false) = 1
            """ + "text \"" + BURNS_127 + "\"\n" + """
            played(0) = -1
            is(0) = 127
            of(3, 2) = 1
            light(3, true) = 1
            of(3, 3) = 3
            out(3) = 1
            foretold(1, 3) = 0
            burn() = 1
            of(3, 2..3) = 0 0
            is(0) = 128
            """);
        e.edge("Terms", "is it 0 then, it is out (no end burns any more): written down, by number", """
            cord({1, 1, 1, 2}, 0)
            hands(8)
            light(3, {false, true}) = 1
            light(2, true) = 1
            light(0, true) = 1
            light(1, false) = 1
            dead() = 0
            burn() = 64
            dead() = 15
            of(0..3, 3) = 0
            is(3) = 0
            book(-1, 0) = 9
            book(5, 0..3) = 64 0 3 0
            book(6, 0..3) = 64 1 3 0
            book(7, 0..3) = 64 2 3 0
            book(8, 0..3) = 64 3 3 0
            minute(1) = 0
            book(-1, 0) = 9             // what is out isn't written down again
            light(0..3, false) = -1 !
            snuff(0..3, true) = false !
            """);
    }

    private void moments() {
        e.edge("Terms", "A moment lasts till SPARKS pass: HANDS is how many ends can be lit in it", """
            cord({3, 1, 1, 60}, 0)
            hands(1) = true
            light(0, false) = 1
            is(2) = 1
            light(0, true) = -1 !
            minute(1) = 0
            is(2) = 0
            light(0, true) = 1
            light(1, true) = -1 !
            burn() = 64                 // 128 by both ends
            is(2) = 0
            light(1, true) = 1
            light(1, false) = -1 !
            snuff(1, true) = true       // by none of these a SPARK passes
            renew(0) = true
            cord(5, 5) = -1
            wet(1, true) = true
            by(-1) = true
            image() = 128
            back() = 128
            is(2) = 1
            light(1, true) = -1 !
            hands(2) = true
            light(1, true) = 1
            light(1, false) = -1 !
            hands(1) = true
            light(1, false) = -1 !
            shifts(5, 1) = 256          // 2 MINUTES
            is(2) = 0
            light(0, true) = 1
            new
            cord({9, 9, 9, 9}, 0)
            hands(8) = true
            light(0..3, {false, true}) = 1
            is(2) = 8
            snuff(0, false) = true
            light(0, false) = -1 !      // the 9th
            minute(1) = 0
            light(0, false) = 1
            """);
    }

    private void lit() {
        e.edge("Terms", "LIT: an end that burns not of a CORD that isn't out", """
            cord({1, 5}, 0)
            hands(8)
            light(0, false) = 1
            light(0, false) = -1 !
            light(0, true) = 1
            light(0, {false, true}) = -1 !
            burn() = 32
            light(0, {false, true}) = -1 !
            renew(0) = true
            light(0, false) = 1
            """);
        e.edge("Terms", "fewer than HANDS having been lit at this moment", """
            cord({5, 5}, 0)
            light(0, false) = 1
            light(1, false) = 1         // one was lit, HANDS is 2
            light({0, 1}, true) = -1 !  // two were
            hands(3) = true
            light(1, true) = 1
            light(0, true) = -1 !
            hands(1) = true
            light(0, true) = -1 !
            undo() = 2
            light(1, true) = -1 !
            undo() = 1
            light(1, true) = -1 !       // one was lit, HANDS is 1
            undo() = 0
            light(1, true) = 1
            """);
        e.edge("Terms", "lights saying more than 0", """
            cord({5, 5, 5}, 0)
            text "lights cord;" = 0
            text "lights -1;" = 1
            by(0) = true
            light(0, {false, true}) = -1 !
            light(1, false) = 1
            light(2, false) = 1
            by(1) = true
            hands(8) = true
            light(0..2, true) = -1 !
            by(-1) = true
            light(0, true) = 1
            """);
    }

    private void drawn() {
        e.edge("Terms", "a draw by 10 (X mod 10, X being (X * 569 + 439) mod 30781 then): below fails: FIZZLED", """
            cord(5, 0)
            text "fails 1;"
            by(0) = true
            light(0, false) = 1         // 311: 1 isn't below 1
            is(1) = 23493
            new
            cord(5, 0)
            text "fails 2;"
            by(0) = true
            light(0, false) = 0         // 1 is below 2
            is(1) = 23493
            new
            cord(5, 0)
            shifts(21, 1) = 0           // nothing burns that it could snuff
            is(1) = 16610
            light(0, false) = 1         // 0 isn't below 0
            undo() = 1
            text "fails 1;"
            by(0) = true
            light(0, false) = 0         // 0 is below 1
            new
            cord(5, 0)
            shifts(36, 1) = 0           // nothing burns
            is(1) = 2899
            text "fails 9;"
            text "fails 10;"
            by(0) = true
            light(0, false) = 1         // 9 isn't below 9
            undo() = 1
            by(1) = true
            light(0, false) = 0         // 9 is below 10
            new
            cord(5, 0)
            text "fails lit*2;"
            by(0) = true
            light(0, false) = 1         // 1 isn't below 0: the end that is lit burns not yet
            light(0, true) = 1          // 3 isn't below 2
            new
            shifts(8175, 1) = 0
            is(1) = 0                   // the lowest X
            cord(5, 0) = 0
            light(0, false) = 1
            is(1) = 439
            new
            shifts(4605, 2) = 0
            is(1) = 30780               // the highest X
            cord(5, 0) = 0
            text "fails 1;"
            by(0) = true
            light(0, false) = 0
            is(1) = 30651
            """);
        e.edge("Terms", "FIZZLED (it burns not; it counts as one of HANDS); written down", """
            cord(5, 0)
            text "fails 10;"
            by(0) = true
            light(0, true) = 0
            of(0, 3) = 0
            is(2..3) = 1 0
            book(-1, 0) = 1
            book(0, 0..3) = 0 0 1 1
            light(0, true) = 0          // it may be lit again
            is(2) = 2
            light(0, true) = -1 !       // both HANDS were used
            about(4) = 2
            undo() = 1
            is(2) = 1
            """);
    }

    private void snuffedAndRenewed() {
        e.edge("Terms", "SNUFFED: an end that burns: not any more; written down", """
            cord({2, 2}, 0)
            snuff({0, 1}, {false, true}) = false !
            light(0, true) = 1
            snuff(0, false) = false !
            snuff(1, true) = false !
            snuff(0, true) = true
            of(0, 3) = 0
            book(1, 0..3) = 0 0 2 1
            snuff(0, true) = false !
            minute(1) = 0
            of(0, 2) = 128
            light(0, {false, true}) = 1
            burn() = 64
            snuff(0, {false, true}) = false !   // it is out
            """);
        e.edge("Terms", "RENEWED: a CORD that has not all its MINUTES yet, or burns: it is as new", """
            cord({3, 3, 1, 1}, 0)
            hands(8)
            renew(0..3) = false !
            light(0, true) = 1
            renew(0) = true                     // it has all, and burns
            of(0, 2..3) = 192 0
            renew(0) = false !
            light(0, {false, true}) = 1
            minute(1) = 0
            renew(0) = true                     // it has not all, and burns
            of(0, 2..3) = 192 0
            light(0, false) = 1
            minute(1) = 0
            snuff(0, false) = true
            renew(0) = true                     // it has not all, and burns not
            of(0, 2..3) = 192 0
            light(2, false) = 1
            burn() = 64
            renew(2) = true                     // it is out
            of(2, 2..3) = 64 0
            of(1, 2) = 192
            new                                 // It has all but one SPARK
            cord({1, 1, 1, 2}, 0)
            hands(8)
            light(3, false) = 1
            """ + "text \"" + BURNS_127 + "\"\n" + """
            played(0) = -1
            light(1, false) = 1
            burn() = 1
            snuff(1, false) = true
            of(1, 2..3) = 63 0
            renew(1) = true
            of(1, 2..3) = 64 0
            renew(1) = false !
            """);
    }

    private void passing() {
        e.edge("Terms", "BURNT: SPARKS pass until a CORD goes out", """
            cord({1, 2, 1}, 0)
            hands(8)
            burn() = -1 !
            light(1, false) = 1
            light(2, false) = 1
            burn() = 64
            of(0..2, 2) = 64 64 0
            light(0, true) = 1
            burn() = 64                         // two at once
            of(0..2, 2) = 0 0 0
            new
            cord({1, 2, 1}, 0)
            hands(8)
            light(0..2, false) = 1
            burn() = 64
            dead() = 5                          // it stops at the first end of one
            is(0) = 64
            burn() = 64
            dead() = 7
            burn() = -1 !
            """);
        e.edge("Terms", "MINUTES: so many pass", """
            cord({1, 2, 5}, 0)
            hands(8)
            minute(1) = 0
            is(0) = 64
            light(0..2, false) = 1
            minute(60) = 3
            is(0) = 3904
            minute(2) = 0
            is(0) = 4032
            new                         // Four that go out amid one MINUTE, each at a SPARK of its own
            cord({1, 1, 1, 1}, 0)
            hands(8)
            text "left 0;left 1;left 2;left 3;right 0;burn;snuff 2;renew 0;left 0;right 1;burn;snuff 0;snuff 3;renew 1;"
            played(0) = -1
            is(0) = 48
            of(0..3, 2) = 48 64 32 16
            light(0, false) = 1
            light(1..3, {false, true}) = 1
            minute(1) = 4
            is(0) = 112
            of(0..3, 2) = 0
            book(-1, 0) = 23
            book(19..22, 0) = 56 64 80 96
            book(19..22, 1) = 3 2 1 0
            book(19..22, 2) = 3
            """);
    }

    private void whichAreSteps() {
        e.edge("Terms", "STEPS: LIT or FIZZLED, SNUFFED, RENEWED, BURNT, a MINUTE (each), SHIFTS (see V)", """
            cord({2, 2}, 0) = 0 1
            hands(3) = true
            text "fails 10;" = 0
            by(0) = true
            want(64) = 1
            tried(1, true) = 1
            said(0, 1) = 1
            wet(0, true) = true
            image() = 0
            about(4) = 0
            undo() = -1 !
            light(0, false) = 0
            about(4) = 1
            by(-1) = true
            light(0, false) = 1
            about(4) = 2
            snuff(0, false) = true
            about(4) = 3
            light(0, true) = 1
            renew(0) = true
            about(4) = 5
            minute(1) = 0
            about(4) = 6
            minute(3) = 0
            about(4) = 9
            light(0, false) = 1
            burn() = 128
            about(4) = 11
            shifts(0, 1) = 384
            about(4) = 12
            shifts(0, 40)
            about(4) = 13
            light(7, false) = -1
            snuff(1, true)
            renew(9) = false
            minute(0) = -1
            shifts(0, 41) = -1
            undo() = 12
            """);
        e.edge("Terms", "the latest 30 can be taken back, the latest first", """
            minute(29) = 0
            about(4) = 29
            minute(1) = 0
            about(4) = 30
            minute(1) = 0
            about(4) = 30
            undo() = 29
            is(0) = 1920
            28 x undo()
            is(0) = 128
            about(4) = 1
            undo() = 0
            is(0) = 64
            undo() = -1 !
            minute(2) = 0
            undo() = 1
            is(0) = 128
            minute(60) = 0
            about(4) = 30
            30 x undo()
            is(0) = 2048
            undo() = -1 !
            """);
    }

    private void stepsTakenBack() {
        e.edge("Terms", "(REST, ends, SPARKS, how many were lit, X, BOOK are as ahead of it", """
            cord({1, 4}, 0)
            hands(8)
            light(0, false) = 1
            light(1, {false, true}) = 1
            burn() = 64
            light(1, false) = -1
            snuff(1, false) = true
            renew(0) = true
            light(0, true) = 1
            is(0..3) = 64 1519 1 2
            of(0..1, 2) = 64 128
            of(0..1, 3) = 2 2
            book(-1, 0) = 6
            undo() = 6                          // light
            is(0..3) = 64 12931 0 1
            of(0..1, 3) = 0 2
            book(-1, 0) = 5
            undo() = 5                          // renew
            of(0..1, 2) = 0 128
            undo() = 4                          // snuff
            of(0..1, 3) = 0 3
            is(0..3) = 64 12931 0 2
            book(-1, 0) = 4
            undo() = 3                          // burn
            is(0..3) = 0 12931 3 3
            of(0..1, 2) = 64 256
            of(0..1, 3) = 1 3
            book(-1, 0) = 3
            undo() = 2                          // the lights
            undo() = 1
            undo() = 0
            is(0..3) = 0 311 0 0
            book(-1, 0) = 0
            new                                 // nothing else is taken back
            cord(5, 5) = 0
            minute(1) = 0
            hands(3) = true
            text "fails 1;" = 0
            by(0) = true
            want(64) = 1
            tried(1, true) = 1
            said(0, 1) = 1
            wet(0, true) = true
            tape "burn"
            undo() = 0
            about(0..8) = 1 3 1 0 0 1 1 1 4
            of(0, 4) = 1
            is(0) = 0
            """);
        e.edge("Terms", "BOOK are as ahead of it", "cord(60, 0)\nhands(8)\n"
            + "light(0, false) = 1\nsnuff(0, false) = true\nlight(0, true) = 1\nsnuff(0, true) = true\nminute(1) = 0\n".repeat(7) + """
            light(0, true) = 1
            light(0, false) = 1
            book(-1, 0) = 30
            book(0, 0..3) = 0 0 0 0
            snuff(0, true) = true
            light(0, true) = 1
            book(0, 0..3) = 0 0 0 1             // two have gone
            2 x undo()
            book(-1, 0) = 30
            book(0, 0..3) = 0 0 0 0             // and are there again
            book(29, 0..3) = 448 0 0 0
            """);
    }

    private void cordsToldSince() {
        e.edge("Terms", "CORDS told since are as new", """
            cord(4, 1) = 0
            light(0, false) = 1
            cord(7, 2) = 1
            hands(8) = true
            light(1, {false, true}) = 1
            minute(1) = 0
            cord(9, 3) = 2
            light(2, true) = 1
            of(0..2, 2) = 192 320 576
            undo() = 4                          // the light of CORD 2, which was told ahead of it
            of(2, 2..3) = 576 0
            undo() = 3                          // the minute: CORD 2 was told since
            of(0..2, 2) = 256 448 576
            of(0..2, 3) = 1 3 0
            2 x undo()
            undo() = 0                          // the first light: CORDS 1 and 2 were
            of(0..2, 0) = 4 7 9
            of(0..2, 1) = 1 2 3
            of(0..2, 2) = 256 448 576
            of(0..2, 3) = 0
            about(0) = 3
            undo() = -1 !
            new
            minute(1) = 0
            cord({1, 1, 1, 1}, 0)
            hands(8)
            light(0..3, true) = 1
            burn() = 64
            dead() = 15
            6 x undo()
            dead() = 0
            about(0) = 4
            of(0..3, 2) = 64
            """);
    }
}
