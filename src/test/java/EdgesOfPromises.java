/** The sentences of the promises themselves: what each call answers, what it refuses, what stays then. */
final class EdgesOfPromises {
    /** A state in which there is something of all that a refused call could change. */
    private static final String MUCH = """
        cord({4, 9}, 3) = 0 1
        hands(3) = true
        text "fails 1;lights 5;" = 0
        by(0) = true
        wet(1, true) = true
        want(256) = 1
        tried(1, true) = 1
        said(0, 1) = 1
        minute(1) = 0
        image() = 64
        light(0, false) = 1
        minute(1) = 0
        light(0, true) = 1
        tape "burn;"
        """;
    private final Edges e;

    EdgesOfPromises(Edges edges) {
        e = edges;
    }

    void all() {
        newObject();
        cordAndHands();
        feedAndEnd();
        textAndFault();
        by();
        light();
        snuffAndRenew();
        burnAndMinute();
        played();
        shiftsAndUndo();
        ofAndLaw();
        isAndBook();
        foretoldAndOut();
        spansAndCan();
        fewestAndCheapest();
        rowAndBetween();
        nearest();
        wantAndBundle();
        crewsAndTake();
        wetAndTried();
        suspectsAndTest();
        rightAndTries();
        saidAndWhose();
        whatIsNow();
        imageAndBack();
        about();
        lastCall();
    }

    private void newObject() {
        e.edge(1, "No cord; THE IMAGE is this.", """
            about(0..8) = 0 2 0 -1 0 0 0 0 0
            is(0..3) = 0 311 0 0
            book(-1, 0) = 0
            undo() = -1 !
            back() = 0 !
            cord(5, 5) = 0
            light(0, true) = 1
            minute(3) = 0
            hands(7) = true
            text "burn;" = 0
            by(0) = true
            want(64) = 1
            tried(1, true) = 1
            said(0, 1) = 1
            back() = 0
            about(0..8) = 0 2 0 -1 0 0 0 0 0
            is(0..3) = 0 311 0 0
            book(-1, 0) = 0
            of(0, 0) = -1
            undo() = -1
            """);
    }

    private void cordAndHands() {
        e.edge(2, "A CORD: its number.", """
            cord(1, 0) = 0
            cord(60, 99) = 1
            cord(30, 50) = 2
            cord(30, 50) = 3
            of(0..3, 0) = 1 60 30 30
            of(0..3, 1) = 0 99 50 50
            """);
        e.edge(2, "NONE for others, or if there are 4.", MUCH + """
            cord({0, -1, 61, BIG, LOW}, {0, 50, 99}) = -1 !
            cord({1, 30, 60}, {-1, 100, BIG, LOW}) = -1 !
            cord(1, 99) = 2
            cord(60, 0) = 3
            cord({1, 30, 60}, {0, 99}) = -1 !
            cord(0, 100) = -1 !
            """);
        e.edge(3, "HANDS told: true.", """
            hands(1) = true
            about(1) = 1
            hands(1) = true
            hands(8) = true
            about(1) = 8
            hands(4) = true
            about(1) = 4
            """);
        e.edge(3, "False for others (1 .. 8).", MUCH + """
            hands({0, -1, 9, 256, BIG, LOW}) = false !
            about(1) = 3
            """);
    }

    private void feedAndEnd() {
        e.edge(4, "Twenty bytes come behind the tape, the highest of a first: how many it has.", """
            feed(1835626101, 1952784435, 990539113, 1853191269, 540293690) = 20    // minute 3; and minute 4::
            end(18) = 18
            feed(991961120, 538976288, 538976288, 538976288, 538976288) = 38       // ; and blanks
            text() = 0
            played(0) = -1
            is(0) = 448
            feed(-1, -1, -1, -1, -1) = 20
            text() = -1
            fault(0..1) = 1 0                   // a byte of 255
            feed(538976288, 538976288, 538976288, 538976288, 538976511) = 20
            text() = -1
            fault(0..1) = 1 19
            feed(0, 0, 0, 0, 0) = 20
            feed(LOW, BIG, 0, 0, 0) = 40
            """);
        e.edge(4, "NONE, and none come, if there would be more than 300.", MUCH + """
            end(0) = 0
            feed(1651864174, 991952896, 0, 0, 0) = 20
            end(6) = 6
            14 x feed(538976288, 538976288, 538976288, 538976288, 538976288)
            about(8) = 286
            feed(0, 0, 0, 0, 0) = -1 !          // 306
            end(281) = 281
            feed(0, 0, 0, 0, 0) = -1 !          // 301
            end(280) = 280
            feed(538976288, 538976288, 538976288, 538976288, 538976288) = 300
            feed(0, 0, 0, 0, 0) = -1 !
            text() = 1
            """);
        e.edge(5, "The tape has its first n bytes alone: n.", """
            end(0) = 0 !
            tape "hands 4;burn;burn"
            end(17) = 17 !
            end(16) = 16
            about(8) = 16
            end(8) = 8
            text() = 0
            played(0) = -1
            about(1) = 4
            tape "burn;"
            end(0) = 0
            about(8) = 0
            text() = 1
            played(1) = -1 !
            """);
        e.edge(5, "NONE, and nothing is done, if it has not so many, or n is below 0.", """
            end({1, -1, BIG, LOW}) = -1 !
            """ + MUCH + """
            end({6, 20, 300, 301, -1, -2, BIG, LOW}) = -1 !
            end(4) = 4
            end(5) = -1 !
            """);
    }

    private void textAndFault() {
        e.edge(6, "The tape (empty then) is a TEXT: its number.", """
            text() = 0
            about(2) = 1
            tape "burn;"
            text() = 1
            about(8) = 0
            text() = 2                          // the empty one
            fault(0..1) = 0 -1
            """);
        e.edge(6, "NONE: it has a FAULT; or (the tape stays) there are 4.", """
            tape "burn"
            text() = -1
            about(8) = 0
            about(2) = 0
            by(0) = false
            text "hands 7;hands 8;lights 7;fails 8;burn" = -1
            text "burn;" = 0                    // nothing is left of what had a FAULT
            by(0) = true
            cord(5, 5) = 0
            law(0, false, {true, false}) = 1 0
            text "fails 1;" = 1
            text "fails 2;" = 2
            text "hands $" = -1
            text "fails 3;" = 3
            tape "fails 4;"
            text() = -1 !
            about(8) = 8
            tape "fails $"
            text() = -1 !                       // it isn't even read
            fault(0..1) = 0 -1
            back() = 0
            text() = -1
            fault(0..1) = 1 6
            new
            text "hands 7;hands 8;$" = -1
            text "minute 1;" = 0
            played(0) = -1
            about(1) = 2
            text "lights (((((((1" = -1
            text "fails --------1;lights 3$" = -1
            """ + ("text \"lights 1" + "+1".repeat(30) + "$\" = -1\n").repeat(6) + """
            text "lights ((((((((7))))))))+1-1+1-1+1-1;" = 1
            cord(5, 5) = 0
            by(1) = true
            law(0, false, {true, false}) = 7 0
            text "lights 6+-twos 1$" = -1
            text "lights 5;" = 2
            by(2) = true
            law(0, false, true) = 5             // nor of its law, behind the end of this one
            text "lights -1$" = -1
            text "lights 6;" = 3
            by(3) = true
            law(0, false, true) = 6
            """);
        e.edge(7, "Of the latest text that was read: 0 its FAULT (0 without), 1 its place (NONE without).", """
            text "hands 9;" = -1
            fault(0..1) = 2 6
            tape "burn"
            fault(0..1) = 2 6                   // it wasn't read yet
            text() = -1
            fault(0..1) = 1 4
            text "burn;" = 0
            fault(0..1) = 0 -1
            text "$" = -1
            fault(0..1) = 1 0                   // place 0 is one
            """);
        e.edge(7, "NONE for others, and ahead of any.", """
            fault({0, 1, 2, -1}) = -1 !
            tape "burn"
            fault({0, 1}) = -1 !
            text "hands 9;" = -1
            fault({2, 3, -1, BIG, LOW}) = -1 !
            """);
    }

    private void by() {
        e.edge(8, "THE TEXT (NONE: none): true.", """
            by(-1) = true !
            cord(5, 5) = 0
            text "fails 3;" = 0
            text "fails 4;" = 1
            by(1) = true
            about(3) = 1
            law(0, true, false) = 4
            by(0) = true
            about(3) = 0
            law(0, true, false) = 3
            by(-1) = true
            about(3) = -1
            law(0, true, false) = 0
            """);
        e.edge(8, "False for others.", "by({0, 1}) = false !\n" + MUCH + """
            by({1, 2, 4, -2, BIG, LOW}) = false !
            about(3) = 0
            text "" = 1
            by(1) = true
            by(2) = false !
            about(3) = 1
            """);
    }

    private void light() {
        e.edge(9, "LIT (1), or FIZZLED (0).", """
            cord(5, 5) = 0
            light(0, false) = 1
            of(0, 3) = 1
            text "fails 10;" = 0
            by(0) = true
            light(0, true) = 0
            of(0, 3) = 1
            is(1..2) = 9002 2
            book(0, 0..3) = 0 0 0 0
            book(1, 0..3) = 0 0 1 1
            about(4) = 2
            """);
        e.edge(9, "NONE, if it can't be, and for others.", MUCH + """
            light({2, 3, 4, -1, BIG, LOW}, {false, true}) = -1 !
            light(0, {false, true}) = -1 !      // both ends burn
            light(1, false) = 1
            hands(2) = true
            light(1, true) = -1 !               // HANDS
            minute(2) = 1
            light(0, {false, true}) = -1 !      // it is out
            text "lights 0;" = 1
            by(1) = true
            light(1, true) = -1 !               // the law
            """);
    }

    private void snuffAndRenew() {
        e.edge(10, "SNUFFED: true.", """
            cord(5, 5) = 0
            light(0, {false, true}) = 1
            snuff(0, false) = true
            of(0, 3) = 2
            snuff(0, true) = true
            of(0, 3) = 0
            book(2, 0..3) = 0 0 2 0
            book(3, 0..3) = 0 0 2 1
            about(4) = 4
            """);
        e.edge(10, "False, if that end burns not, and for others.", MUCH + """
            snuff({2, 3, 4, -1, BIG, LOW}, {false, true}) = false !
            snuff(1, {false, true}) = false !
            snuff(0, true) = true
            snuff(0, true) = false !
            snuff(0, false) = true
            snuff(0, {false, true}) = false !
            """);
        e.edge(11, "RENEWED: true.", """
            cord(5, 5) = 0
            light(0, true) = 1
            renew(0) = true
            of(0, 2..3) = 320 0
            light(0, true) = 1
            minute(5) = 1
            renew(0) = true
            of(0, 2..3) = 320 0
            about(4) = 9
            book(-1, 0) = 3                     // it isn't written down
            """);
        e.edge(11, "False, if it is as new, and for others.", MUCH + """
            renew({2, 3, 4, -1, BIG, LOW}) = false !
            renew(1) = false !
            renew(0) = true
            renew(0) = false !
            """);
    }

    private void burnAndMinute() {
        e.edge(12, "BURNT: how many SPARKS.", """
            cord({1, 60}, 5)
            light(1, false) = 1
            light(0, true) = 1
            burn() = 64
            burn() = 3776
            is(0) = 3840
            about(4) = 4
            """);
        e.edge(12, "NONE, if nothing burns, and beyond 9999 MINUTES.", """
            burn() = -1 !
            cord({1, 1, 1}, 5)
            burn() = -1 !
            new
            """ + EdgesOfTerms.late(9997) + """
            cord({1, 1, 1, 2}, 0)
            hands(3)
            """ + "text \"" + EdgesOfTerms.BURNS_129 + "\" = 1\ntext \"" + EdgesOfTerms.BURNS_127 + "\" = 2\n" + """
            image() = 639808
            played(1) = 23                      // its last SPARK would be one too many
            burn() = -1 !
            is(0) = 639910
            back() = 639808
            played(2) = -1
            is(0) = 639935                      // one SPARK is left
            light(3, {false, true}) = 1
            burn() = -1 !
            back() = 639808
            light(3, false) = 1
            burn() = 128                        // to the last one
            is(0) = 639936
            burn() = -1 !
            light(0, false) = 1
            burn() = -1 !
            """);
        e.edge(13, "MINUTES pass (1 .. 60): how many CORDS go out in them.", """
            minute(1) = 0
            is(0) = 64
            minute(60) = 0
            is(0) = 3904
            cord({1, 2, 3, 60}, 1)
            hands(8)
            light(0..2, false) = 1
            light(3, {false, true}) = 1
            minute(1) = 1
            minute(2) = 2
            minute(26) = 0
            minute(59) = 1
            """);
        e.edge(13, "NONE for others, and beyond 9999 (nothing is done then).", MUCH + """
            minute({0, -1, 61, 62, BIG, LOW}) = -1 !
            new
            """ + EdgesOfTerms.late(9939) + """
            cord(60, 1) = 0
            light(0, false) = 1
            image()
            minute(60) = 1                      // to the last one
            is(0) = 639936
            minute({1, 2, 60}) = -1 !
            back()
            minute(1) = 0
            minute(60) = -1 !
            minute(59) = 1
            """);
    }

    private void played() {
        e.edge(14, "PLAYED by a TEXT: NONE: all is done; else the number of the CLAUSE that can't be.", """
            text "" = 0
            text "cord 5 price 5;left 0;minute 1;" = 1
            text "fails 1;left 3;" = 2
            played(0) = -1 !
            played(1) = -1
            of(0, 2..3) = 256 1
            played(2) = 1 !
            text "left 3;" = 3
            played(3) = 0 !
            """);
        e.edge(14, "-2 for others.", "played({-1, 0, 1, 4, BIG, LOW}) = -2 !\n" + MUCH + "played({-1, -2, 1, 4, BIG, LOW}) = -2 !\n");
    }

    private void shiftsAndUndo() {
        e.edge(15, "SHIFTS: SPARKS.", """
            shifts(5, 1) = 128
            shifts(5, 1) = 256
            shifts(0, 40) = 832
            is(0) = 832
            """);
        e.edge(15, "NONE for others.", MUCH + """
            shifts({-1, 10000, BIG, LOW}, {1, 40}) = -1 !
            shifts({0, 9999}, {0, -1, 41, BIG, LOW}) = -1 !
            """);
        e.edge(16, "The latest STEP is taken back: how many can be yet.", """
            minute(2) = 0
            shifts(5, 1) = 256
            undo() = 2
            is(0) = 128
            undo() = 1
            is(0) = 64
            undo() = 0
            is(0) = 0
            minute(60) = 0
            undo() = 29
            """);
        e.edge(16, "NONE: there is none.", """
            undo() = -1 !
            cord(5, 5) = 0
            hands(5) = true
            undo() = -1 !
            light(0, false) = 1
            undo() = 0
            undo() = -1 !
            minute(31) = 0
            30 x undo()
            undo() = -1 !
            is(0) = 64
            """);
    }

    private void ofAndLaw() {
        e.edge(17, "Of a CORD: 0 MINUTES, 1 PRICE, 2 REST (SPARKS), 3 ends that burn (1 left, 2 right, 3 both), 4 whether it is WET (1, 0; told).", """
            cord(7, 42) = 0
            cord(1, 0) = 1
            of(0, 0..4) = 7 42 448 0 0
            of(1, 0..4) = 1 0 64 0 0
            light(0, false) = 1
            of(0, 3) = 1
            minute(1) = 0
            light(0, true) = 1
            wet(0, true) = true
            of(0, 0..4) = 7 42 384 3 1
            snuff(0, false) = true
            of(0, 3) = 2
            wet(0, false) = true
            minute(6) = 1
            of(0, 0..4) = 7 42 0 0 0
            """);
        e.edge(17, "NONE for others.", MUCH + """
            of({2, 3, 4, -1, BIG, LOW}, 0..4) = -1 !
            of({0, 1}, {5, -1, BIG, LOW}) = -1 !
            """);
        e.edge(18, "lights (lights true), fails now.", """
            cord({5, 6}, 7) = 0 1
            law(0..1, {false, true}, true) = 1
            law(0..1, {false, true}, false) = 0
            text "lights 10*side+cord+time;fails lit+2*cord;" = 0
            by(0) = true
            law(0..1, {false, true}, true) = 0 10 1 11
            law(0..1, {false, true}, false) = 0 0 2 2
            light(0, true) = 1
            minute(3) = 0
            law(0..1, {false, true}, true) = 3 13 4 14
            law(0..1, {false, true}, false) = 1 1 3 3
            """);
        e.edge(18, "-100 for others.", "law(0, false, {false, true}) = -100 !\n" + MUCH + """
            law({2, 3, 4, -1, BIG, LOW}, {false, true}, {false, true}) = -100 !
            """);
    }

    private void isAndBook() {
        e.edge(19, "0 SPARKS, 1 X, 2 how many were lit at this moment, 3 how many ends burn.", MUCH + """
            is(0..3) = 128 9002 1 2 !
            light(1, false) = 1
            is(0..3) = 128 12931 2 3
            minute(1) = 0
            is(0..3) = 192 12931 0 3
            """);
        e.edge(19, "-2 for others.", MUCH + "is({4, 5, -1, BIG, LOW}) = -2 !\n");
        e.edge(20, "BOOK: how many (i NONE); the i-th, from the eldest on: 0 SPARKS, 1 CORD, 2 what (0 lit, 1 fizzled, 2 snuffed, 3 out), 3 the end (0 left, 1 right; out: 0).", """
            book(-1, 0..3) = 0
            cord({5, 1}, 5)
            text "fails 10;" = 0
            light(1, true) = 1
            minute(1) = 1
            by(0) = true
            light(0, true) = 0
            by(-1) = true
            light(0, false) = 1
            minute(1) = 0
            snuff(0, false) = true
            book(-1, 0..3) = 5
            book(0, 0..3) = 0 1 0 1
            book(1, 0..3) = 64 1 3 0
            book(2, 0..3) = 64 0 1 1
            book(3, 0..3) = 64 0 0 0
            book(4, 0..3) = 128 0 2 0
            new                                 // a line of the latest SPARKS that there are
            """ + EdgesOfTerms.late(9999) + """
            cord({1, 1, 1, 1}, 1)
            light(3, true) = 1
            book(0, 0..3) = 639936 3 0 1
            """);
        e.edge(20, "-2 if there is none such, and for others.", "book(0, 0..3) = -2 !\n" + MUCH + """
            book({2, 3, 29, 30, -2, BIG, LOW}, 0..3) = -2 !
            book({0, 1}, {4, -1, BIG, LOW}) = -2 !
            """);
    }

    private void foretoldAndOut() {
        e.edge(21, "FORETOLD: REST.", """
            cord(5, 5) = 0
            light(0, true) = 1
            foretold({1, 4, 5, 60}, 0) = 256 64 0 0 !
            """);
        e.edge(21, "NONE for others.", "foretold(1, 0) = -1 !\n" + MUCH + """
            foretold({0, -1, 61, BIG, LOW}, {0, 1}) = -1 !
            foretold({1, 60}, {2, 3, 4, -1, BIG, LOW}) = -1 !
            """);
        e.edge(22, "OUT: in how many SPARKS.", """
            cord(5, 5) = 0
            light(0, true) = 1
            out(0) = 320 !
            light(0, false) = 1
            out(0) = 160 !
            minute(1) = 0
            out(0) = 96
            minute(2) = 1
            out(0) = 0 !
            """);
        e.edge(22, "NONE: never, and for others.", "out({0, -1}) = -1 !\n" + MUCH + "out(1) = -1 !\nout({2, 3, 4, -1, BIG, LOW}) = -1 !\n");
    }

    private void spansAndCan() {
        e.edge(23, "SPANS: how many (i NONE), the i-th.", """
            cord({1, 2}, 5)
            spans(1, -1..1) = 2 32 64
            spans(2, -1..1) = 2 64 128
            spans(3, -1..7) = 8 32 48 64 80 96 128 160 192
            """);
        e.edge(23, "-2 for others, or if there is none such.", "spans(1, {-1, 0}) = -2 !\n" + MUCH + """
            spans({0, 4, 8, 15, 16, -1, BIG, LOW}, {-1, 0}) = -2 !
            spans(1, {2, 3, -2, BIG, LOW}) = -2 !
            spans(3, {14, 15, -2, BIG, LOW}) = -2 !
            spans(3, 13) = 832
            """);
        e.edge(24, "Whether CORDS can give a SPAN.", """
            cord({1, 2}, 5)
            can(1, {32, 64}) = true
            can(1, {33, 63, 128}) = false
            can(3, {192, 160}) = true
            can(3, {193, 161}) = false
            """);
        e.edge(24, "False for others.", "can(1, 64) = false !\n" + MUCH + """
            can({0, 4, 8, 16, -1, BIG, LOW}, 256) = false !
            can({1, 3}, {0, -1, 15361, BIG, LOW}) = false !
            """);
    }

    private void fewestAndCheapest() {
        e.edge(25, "FEWEST CORDS (bits).", """
            cord({1, 2, 1}, 5)
            fewest(64) = 1
            fewest(128) = 2
            fewest(192) = 3
            fewest(256) = 7
            """);
        e.edge(25, "NONE: none can, and for others.", "fewest({1, 64, 15360}) = -1 !\n" + MUCH
            + "fewest({255, 833, 1, 15360}) = -1 !\nfewest({0, -1, 15361, BIG, LOW}) = -1 !\n");
        e.edge(26, "CHEAPEST CORDS (bits).", """
            cord(1, 9)
            cord(2, 3)
            cord(1, 3)
            cheapest(64) = 2
            cheapest(32) = 4
            cheapest(192) = 6
            cheapest(256) = 7
            """);
        e.edge(26, "NONE: none can, and for others.", "cheapest({1, 64, 15360}) = -1 !\n" + MUCH
            + "cheapest({255, 833, 1, 15360}) = -1 !\ncheapest({0, -1, 15361, BIG, LOW}) = -1 !\n");
    }

    private void rowAndBetween() {
        e.edge(27, "A ROW: how many moments (i NONE), what is lit at the i-th.", """
            cord({4, 9}, 5)
            row(3, 704, -1..1) = 2 2 3
            row(3, 256, -1..0) = 1 1
            row(3, 320, -1..1) = 2 4 0
            row(2, 288, -1..0) = 1 6
            row(3, 704, 0) = 2                  // what is asked between doesn't matter
            cord(60, 5) = 2
            spans(7, -1)
            row(3, 704, 1) = 3
            spans(6, -1)
            row(1, 704, -1) = -2                // of another set, the same SPAN
            row(3, 704, 1) = 3
            spans(5, -1)
            row(3, 704, 0) = 2
            """);
        e.edge(27, "-2: none, there is none such, and for others.", "row(1, 64, {-1, 0}) = -2 !\n" + MUCH + """
            row(3, {255, 257, 833, 1, 15360}, {-1, 0}) = -2 !
            row(1, 704, {-1, 0}) = -2 !
            row(3, 704, {2, 3, -2, BIG, LOW}) = -2 !
            row(3, 256, {1, -2}) = -2 !
            row({0, 4, 16, -1, BIG, LOW}, 256, {-1, 0}) = -2 !
            row(3, {0, -1, 15361, BIG, LOW}, {-1, 0}) = -2 !
            """);
        e.edge(28, "BETWEEN which moments of that ROW: the first (last false), the last (last true).", """
            cord({4, 9}, 5)
            between(3, 704, {false, true}) = 0 2
            between(3, 256, {false, true}) = 0 1
            between(3, 320, {false, true}) = 1 2
            """);
        e.edge(28, "-2: none, and for others.", "between(1, 64, {false, true}) = -2 !\n" + MUCH + """
            between(3, {255, 257, 833, 1, 15360}, {false, true}) = -2 !
            between(1, 704, {false, true}) = -2 !
            between({0, 4, 16, -1, BIG, LOW}, 256, {false, true}) = -2 !
            between(3, {0, -1, 15361, BIG, LOW}, {false, true}) = -2 !
            """);
    }

    private void nearest() {
        e.edge(29, "NEAREST SPAN.", """
            cord({4, 9}, 5)
            nearest(1, {1, 192, 193, 15360}) = 128 128 256 256 !
            nearest(3, {704, 703, 833, 1, 80, 81}) = 704 704 832 32 32 128
            """);
        e.edge(29, "NONE for others.", "nearest(1, 64) = -1 !\n" + MUCH + """
            nearest({0, 4, 16, -1, BIG, LOW}, 256) = -1 !
            nearest({1, 3}, {0, -1, 15361, BIG, LOW}) = -1 !
            """);
    }

    private void wantAndBundle() {
        e.edge(30, "WANTED: how many there are (span NONE: none any more).", """
            want(-1) = 0 !
            want(1) = 1
            want(1) = 2
            want(15360) = 3
            about(5) = 3
            want(-1) = 0
            about(5) = 0
            want(64) = 1
            """);
        e.edge(30, "-2 for others, or if there are 4.", MUCH + """
            want({0, -2, 15361, BIG, LOW}) = -2 !
            want({1, 15360}) = 2 3
            want(256) = 4
            want({1, 256, 15360}) = -2 !
            want({0, 15361}) = -2 !
            want(-1) = 0
            new
            cord({2, 2, 2, 2}, 1)
            4 x want(128)
            part(0..3) = 1 2 4 8
            want({1, 63, 15360}) = -2 !         // the 4th stays
            part(0..3) = 1 2 4 8
            """);
        e.edge(31, "A BUNDLE: CORDS (price false; bits), PRICE (price true).", """
            bundle({false, true}) = 0 0 !
            cord(4, 99)
            cord(9, 98)
            want({256, 576}) = 1 2
            bundle({false, true}) = 3 197 !
            """);
        e.edge(31, "NONE: no way.", """
            want(64) = 1
            bundle({false, true}) = -1 !
            cord(2, 0) = 0
            bundle({false, true}) = 1 0
            want(64) = 2
            bundle({false, true}) = -1 !
            cord(3, 0) = 1
            bundle({false, true}) = -1 !
            cord(1, 0) = 2
            bundle({false, true}) = 5 0
            want(65) = 3
            bundle({false, true}) = -1 !
            """);
        e.edge(32, "A PART: CORDS (bits) for the i-th WANTED.", """
            cord({4, 9}, 5)
            want(576) = 1
            part(0) = 2
            want(256) = 2
            part(0..1) = 2 1 !
            """);
        e.edge(32, "NONE: no way, and for others.", "part({0, -1}) = -1 !\n" + MUCH + """
            part({1, 3, 4, -1, BIG, LOW}) = -1 !
            want(257) = 2
            part({0, 1, 2}) = -1 !
            """);
    }

    private void crewsAndTake() {
        e.edge(33, "CREWS: 1 the one who begins wins, 0 nobody does, -1 the other one does.", """
            crews(64, 64) = 0 !
            cord({4, 9}, 5)
            crews(256, 576) = 1 !
            crews(704, 576) = 0 !
            crews(704, 128) = 0
            cord(4, 5)
            crews(704, 128) = -1 !
            """);
        e.edge(33, "-2 for others.", MUCH + "crews({0, -1, 15361, BIG, LOW}, {1, 15360}) = -2 !\ncrews({1, 15360}, {0, -1, 15361, BIG, LOW}) = -2 !\n");
        e.edge(34, "TAKEN first: the CORD.", """
            cord({4, 9}, 5)
            take(256, 576) = 0 !
            take(704, 576) = 1 !
            take(704, 256) = 0
            """);
        e.edge(34, "NONE: there is none, and for others.", "take({1, 64, 15360}, {1, 15360}) = -1 !\n" + MUCH
            + "take({0, -1, 15361, BIG, LOW}, {1, 15360}) = -1 !\ntake({1, 15360}, {0, -1, 15361, BIG, LOW}) = -1 !\n");
    }

    private void wetAndTried() {
        e.edge(35, "WET told: true.", """
            cord({4, 9, 1, 1}, 5)
            wet(3, true) = true
            of(0..3, 4) = 0 0 0 1
            wet(3, true) = true
            wet(0, true) = true
            wet(1, false) = true
            of(0..3, 4) = 1 0 0 1
            wet(3, false) = true
            of(0..3, 4) = 1 0 0 0
            suspects(0) = 16                    // what is told, isn't found
            light(0, true) = 1
            renew(0) = true
            undo() = 1
            of(0, 4) = 1
            """);
        e.edge(35, "False for others.", "wet(0, {false, true}) = false !\n" + MUCH + "wet({2, 3, 4, -1, BIG, LOW}, {false, true}) = false !\n");
        e.edge(36, "TRIED: how many there are (cords NONE: none any more).", """
            tried(-1, {false, true}) = 0 !
            cord({1, 1}, 1)
            tried(1, true) = 1
            tried(1, true) = 2
            tried(3, false) = 3
            about(6) = 3
            suspects(0) = 0
            tried(-1, true) = 0
            about(6) = 0
            suspects(0) = 4
            tried(2, false) = 1
            suspects(0) = 2
            """);
        e.edge(36, "-2 for others, or if there are 8.", MUCH + """
            tried({0, 4, 5, 8, 16, -2, BIG, LOW}, {false, true}) = -2 !
            6 x tried(3, true)
            tried(3, true) = 8
            tried({1, 2, 3, 0, 4}, {false, true}) = -2 !
            cord(1, 1) = 2
            tried(-1, true) = 0
            tried({4, 7}, true) = 1 2
            tried(8, true) = -2 !
            """);
    }

    private void suspectsAndTest() {
        e.edge(37, "SUSPECTS: 0 how many sets, 1 CORDS in all, 2 in none (bits), 3 the lowest set.", """
            cord({1, 1, 1}, 1)
            suspects(0..3) = 8 0 0 0 !
            tried(6, true) = 1
            suspects(0..3) = 6 0 0 2 !
            tried(3, false) = 2
            suspects(0..3) = 1 4 3 4 !
            """);
        e.edge(37, "NONE: none (1, 2, 3), and for others.", MUCH + """
            suspects({4, 5, -1, BIG, LOW}) = -1 !
            tried(1, false) = 2
            suspects(0..3) = 0 -1 -1 -1 !
            suspects({4, -1}) = -1 !
            """);
        e.edge(38, "WHAT TO TRY: CORDS (bits).", """
            cord({1, 1, 1}, 1)
            test() = 1 !
            tried(1, false) = 1
            test() = 2 !
            tried(2, true) = 2
            test() = 4 !
            """);
        e.edge(38, "NONE: none.", """
            test() = -1 !
            cord({1, 1}, 1)
            tried({1, 2}, true) = 1 2
            test() = -1 !                       // one set
            tried(3, false) = 3
            test() = -1 !                       // none
            """);
    }

    private void rightAndTries() {
        e.edge(39, "RIGHT: the upper (low false), the lower one (low true).", """
            right(0, 0, {false, true}) = 1 1 !
            right(0, 10, {false, true}) = 1 1
            right(12, 0, {false, true}) = 1 1
            right(12, 10, {false, true}) = 0 1
            right(12, 9, {false, true}) = 1 1000000000000
            right(12, 5, {false, true}) = 1 4096
            right(11, 6, {false, true}) = 2048 48828125
            """);
        e.edge(39, "NONE for others (0 .. 12; 0 .. 10).", MUCH + """
            right({-1, -2, 13, 14, BIG, LOW}, {0, 10}, {false, true}) = -1 !
            right({0, 12}, {-1, 11, BIG, LOW}, {false, true}) = -1 !
            """);
        e.edge(40, "RIGHT in the end: the upper (low false), the lower one (low true).", """
            tries(0, 0, 1, {false, true}) = 1 1 !
            tries(0, 10, 4, {false, true}) = 1 1
            tries(3, 10, 1, {false, true}) = 0 1
            tries(3, 10, 4, {false, true}) = 0 1
            tries(3, 0, 4, {false, true}) = 1 1
            tries(1, 9, 1, {false, true}) = 1 10
            tries(1, 9, 4, {false, true}) = 3439 10000
            tries(3, 2, 3, {false, true}) = 1906624 1953125
            """);
        e.edge(40, "NONE for others (0 .. 3; 0 .. 10; 1 .. 4).", MUCH + """
            tries({-1, 4, 5, BIG, LOW}, {0, 10}, {1, 4}, {false, true}) = -1 !
            tries({0, 3}, {-1, 11, BIG, LOW}, {1, 4}, {false, true}) = -1 !
            tries({0, 3}, {0, 10}, {0, -1, 5, BIG, LOW}, {false, true}) = -1 !
            """);
    }

    private void saidAndWhose() {
        e.edge(41, "SAID: how many there are (cord NONE: none any more).", """
            said(-1, {-1, 0, 11}) = 0 !
            cord({1, 1}, 1)
            said(0, 0) = 1
            said(1, 10) = 2
            said(1, 10) = 3
            about(7) = 3
            said(-1, 5) = 0
            about(7) = 0
            said(1, 1) = 1
            """);
        e.edge(41, "-2 for others, or if there are 8.", MUCH + """
            said({2, 3, 4, -2, BIG, LOW}, {0, 10}) = -2 !
            said({0, 1}, {-1, 11, BIG, LOW}) = -2 !
            6 x said(0, 1)
            said(1, 1) = 8
            said({0, 1, 2}, {0, 10, 11}) = -2 !
            whose() = 1
            """);
        e.edge(42, "WHOSE LAW (bits).", """
            whose() = 0 !
            cord({1, 1, 1, 1}, 1)
            text "" = 0
            text "fails cord;" = 1
            text "fails 3;" = 2
            whose() = 7 !
            said(3, 3) = 1
            whose() = 6 !
            text "fails 4-time;" = 3
            said(2, 2) = 2
            whose() = 2
            said(-1, 0) = 0
            said(0, 0) = 1
            whose() = 3
            said(-1, 0) = 0
            said(0, 4) = 1
            whose() = 8
            minute(1) = 0
            whose() = 0
            by(2) = true
            whose() = 0                         // THE TEXT is nothing to it
            """);
    }

    private void whatIsNow() {
        e.edge(43, "LONGEST.", "cord({3, 5, 5}, 1)\nlongest() = 1 !\n");
        e.edge(43, "NONE: none.", """
            longest() = -1 !
            cord({1, 1}, 1)
            light({0, 1}, true) = 1
            longest() = 0
            burn() = 64
            longest() = -1 !
            """);
        e.edge(44, "BURNING (bits).", "burning() = 0 !\n" + MUCH + "burning() = 1 !\nlight(1, true) = 1\nburning() = 3 !\nminute(2) = 1\nburning() = 2 !\n");
        e.edge(45, "DEAD (bits).", "dead() = 0 !\n" + MUCH + "dead() = 0 !\nminute(2) = 1\ndead() = 1 !\n");
        e.edge(46, "BY THE BOOK.", MUCH + "ledger(0..3) = 2 0 0 0 !\nsnuff(0, true) = true\nminute(3) = 1\nledger(0..3) = 2 0 1 1 !\n");
        e.edge(46, "-2 for others (0 .. 3).", MUCH + "ledger({4, 5, -1, BIG, LOW}) = -2 !\n");
    }

    private void imageAndBack() {
        e.edge(47, "THE IMAGE is as all is now: SPARKS.", """
            image() = 0
            cord(5, 5) = 0
            minute(2) = 0
            image() = 128
            minute(1) = 0
            image() = 192
            minute(3) = 0
            back() = 192                        // the latest one
            about(0) = 1
            about(4) = 3
            """);
        e.edge(48, "BACK to THE IMAGE (it stays): SPARKS.", """
            back() = 0 !
            cord(5, 5) = 0
            light(0, true) = 1
            minute(1) = 0
            image() = 64
            back() = 64 !
            minute(9) = 1
            back() = 64
            of(0, 2..3) = 256 2
            2 x undo()
            is(0) = 0
            back() = 64                         // once more
            of(0, 2..3) = 256 2
            about(4) = 2
            minute(40) = 1
            image() = 2624
            minute(17) = 0
            20 x undo()
            back() = 2624
            about(4) = 30
            29 x undo()
            undo() = 0
            is(0) = 704
            """);
    }

    private void about() {
        e.edge(49, "0 CORDS, 1 HANDS, 2 TEXTS, 3 THE TEXT (NONE), 4 STEPS that can be taken back, 5 WANTED, 6 TRIED, 7 SAID, 8 bytes of the tape.", """
            about(0..8) = 0 2 0 -1 0 0 0 0 0 !
            cord({1, 2, 3}, 1)
            hands(4) = true
            text "" = 0
            text "" = 1
            by(1) = true
            minute(5) = 0
            want({1, 2}) = 1 2
            6 x tried(7, true)
            7 x said(0, 1)
            tape "burn;burn;"
            about(0..8) = 3 4 2 1 5 2 6 7 10 !
            """);
        e.edge(49, "-2 for others.", MUCH + "about({9, 10, -1, -2, BIG, LOW}) = -2 !\n");
    }

    private void lastCall() {
        e.edge("Calls", "An object is used for at most 512 calls after it has been made; what later calls answer is free.", """
            cord(60, 1) = 0
            light(0, true) = 1
            505 x is(0) = 0
            minute(1) = 0
            about(8) = 0
            of(0, 2) = 3776
            image() = 64
            back() = 64                         // the 512th
            """);
    }
}
