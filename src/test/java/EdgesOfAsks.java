/** The sentences of the parts III to V: what comes, ROWS, bundles, crews, suspects, odds, SHIFTS, THE IMAGE. */
final class EdgesOfAsks {
    private final Edges e;

    EdgesOfAsks(Edges edges) {
        e = edges;
    }

    void all() {
        nothingChanges();
        whatComes();
        rowsOfSomeCords();
        moments();
        numbersOfWhatIsLit();
        spans();
        rowForASpan();
        nearestFewestCheapest();
        wanted();
        bundles();
        crews();
        tried();
        whatToTry();
        odds();
        whoseLaw();
        whatIsNow();
        seeds();
        shiftsThatLight();
        otherShifts();
        shiftsAsAStep();
        image();
    }

    private void nothingChanges() {
        e.edge("III", "All that follows changes nothing but what is told.", """
            cord({1, 2}, 5) = 0 1
            hands(3) = true
            text "fails 3;" = 0
            by(0) = true
            minute(1) = 0
            image() = 64
            light(1, false) = 0
            light(1, true) = 1
            minute(1) = 0
            want(64) = 1
            tried(3, true) = 1
            said(1, 3) = 1
            tape "burn;"
            foretold(1, 1) = 0 !
            out(1) = 64 !
            spans(3, -1..0) = 8 32 !
            can(3, 48) = true !
            fewest(192) = 3 !
            cheapest(192) = 3 !
            row(3, 96, -1..1) = 2 2 6 !
            between(3, 96, {false, true}) = 0 2 !
            nearest(3, 100) = 96 !
            bundle({false, true}) = 1 5 !
            part(0) = 1 !
            crews(64, 64) = 1 !
            take(64, 64) = 0 !
            suspects(0..3) = 3 0 0 1 !
            test() = 1 !
            right(2, 5, {false, true}) = 1 4 !
            tries(2, 5, 1, {false, true}) = 1 4 !
            whose() = 1 !
            longest() = 0 !
            burning() = 2 !
            dead() = 0 !
            ledger(0..3) = 1 1 0 0 !
            """);
    }

    private void whatComes() {
        e.edge("III", "FORETOLD: REST of a CORD behind n MINUTES (1 .. 60; beyond 9999, too), nothing else being done.", """
            cord({60, 3}, 0)
            light(0, false) = 1
            foretold(1, 0) = 3776
            foretold(2, 0) = 3712
            foretold(59, 0) = 64
            foretold(60, 0) = 0
            foretold({0, -1, 61, 62, BIG, LOW}, 0) = -1 !
            foretold({1, 60}, 1) = 192          // it burns not
            light(0, true) = 1
            foretold(29, 0) = 128
            foretold(30, 0) = 0
            foretold(31, 0) = 0                 // 0 at least
            foretold(60, 0) = 0
            minute(30) = 1
            foretold({1, 60}, 0) = 0            // it is out
            new
            """ + EdgesOfTerms.late(9999) + """
            cord(5, 5) = 0
            light(0, false) = 1
            foretold(1, 0) = 256 !
            foretold(5, 0) = 0 !
            foretold(60, 0) = 0 !
            """);
        e.edge("III", "OUT: in how many SPARKS a CORD is out, nothing else being done (0: it is); never.", """
            cord({2, 1, 60}, 0)
            out(0..2) = -1                      // never
            light(0, false) = 1
            out(0..2) = 128 -1 -1
            light(0, true) = 1
            out(0..2) = 64 -1 -1
            burn() = 64
            out(0..2) = 0 -1 -1
            renew(0) = true
            out(0) = -1
            light(2, true) = 1
            out(2) = 3840
            minute(1) = 0
            out(2) = 3776
            snuff(2, true) = true
            out(2) = -1                         // it has some, and burns not
            new
            cord({1, 1, 1, 3}, 0)
            hands(8)
            light(3, false) = 1
            """ + "text \"" + EdgesOfTerms.BURNS_127 + "\" = 0\n" + """
            played(0) = -1
            out(3) = 65
            light(3, true) = 1
            out(3) = 33                         // an odd one by two ends
            burn() = 33
            out(3) = 0
            new
            """ + EdgesOfTerms.late(9999) + """
            cord(5, 5) = 0
            light(0, false) = 1
            out(0) = 320 !
            """);
    }

    private void rowsOfSomeCords() {
        e.edge("III", "ROWS of some CORDS (bits, one at least, all being as new; HANDS, laws, WET aside)", """
            spans({0, 1, -1}, -1) = -2 !
            cord({4, 9}, 1) = 0 1
            spans({0, 4, 5, -1, -2, BIG, LOW}, -1) = -2 !
            spans(1..3, -1) = 2 2 14
            cord(2, 1) = 2
            spans({0, 8}, -1) = -2 !
            spans(1..3, -1) = 2 2 14
            spans(4, -1..1) = 2 64 128
            light(0, {false, true}) = 1
            burn() = 128
            light(1, false) = 1
            minute(1) = 0
            hands(1) = true
            wet({0, 1}, true) = true
            text "lights -1;fails 10;" = 0
            by(0) = true
            spans(1..3, -1) = 2 2 14
            row(3, 704, -1..2) = 2 2 3 -2
            can(1, 256) = true
            cheapest(256) = 1
            fewest(704) = 3
            """);
    }

    private void moments() {
        e.edge("III", "at a moment any ends are lit (at the first one at least one)", """
            cord({1, 4, 9}, 1)
            spans(1, -1..2) = 2 32 64 -2
            row(1, 64, -1..1) = 1 1 -2
            row(1, 32, -1..1) = 1 2 -2
            row(6, 320, -1..2) = 2 12 0 -2      // none at the second moment
            """);
        e.edge("III", "does something burn then, SPARKS pass until a CORD goes out (one or more at once): the next moment; there again, and so on; it ends when nothing burns.", """
            cord({1, 1}, 1)
            spans(3, -1..6) = 6 16 32 48 64 96 128 -2
            row(3, 128, -1..2) = 2 1 3 -2       // CORD 1 is lit when nothing burns any more
            row(3, 48, -1..2) = 2 5 3 -2        // and here while it burns
            new
            cord({1, 2}, 1)
            spans(3, -1..8) = 8 32 48 64 80 96 128 160 192 -2
            can(3, {31, 63, 65, 191, 193}) = false
            new
            cord({1, 1, 1, 1}, 1)
            row(15, 256, -1..4) = 4 1 3 9 27 -2
            row(15, 257, -1) = -2
            new                                 // the longest CORD first
            cord({9, 4, 1}, 1)
            spans(3, -1..14) = 14 32 128 160 224 256 288 320 352 416 448 544 576 704 832 -2
            row(3, 32, -1..1) = 2 5 0           // 64 of CORD 0 are left at the second moment
            row(3, 160, -1..1) = 2 4 1
            row(3, 352, -1..1) = 2 7 1
            row(3, 832, -1..1) = 2 1 3
            spans(7, -1) = 52
            row(7, 16, -1..2) = 3 5 9 9
            row(7, 376, -1..2) = 3 21 4 1
            row(7, 384, -1..2) = 3 4 0 9
            row(7, 800, -1..2) = 3 19 0 3
            """);
    }

    private void numbersOfWhatIsLit() {
        e.edge("III", "What is lit at a moment is a number: for each CORD 0 none, 1 one end, 2 both, times 3 multiplied as often as its number (a CORD one end of which burns has 0 or 1; both ends, out: 0).", """
            cord({1, 1, 1, 1}, 1)
            row({1, 2, 4, 8}, 64, 0) = 1 3 9 27
            row({1, 2, 4, 8}, 32, 0) = 2 6 18 54
            row(15, 4, -1..3) = 4 41 3 9 27     // one end more of what burns already
            new
            cord({60, 60}, 1)
            row(3, 2880, -1..2) = 2 5 3 -2
            row(3, 960, -1..2) = 2 5 3 -2
            new
            cord({4, 9}, 1)
            row(3, 320, -1..2) = 2 4 0 -2
            row(3, 448, -1..2) = 2 5 0 -2       // 128 by both ends of CORD 0, which are 0 then
            row(3, 160, -1..2) = 2 4 3 -2
            """);
    }

    private void spans() {
        e.edge("III", "SPANS: SPARKS between any two moments of any ROW (the first and the end, too), each once, from the least on (0 aside).", """
            cord({60, 60, 60, 60}, 1)
            spans(1, -1..2) = 2 1920 3840 -2
            spans(15, -1) = 34
            spans(15, 0) = 240
            spans(15, 32..33) = 13440 15360
            spans(15, {34, -2, BIG, LOW}) = -2 !
            can(15, {15360, 240}) = true
            can(15, {15359, 239, 241}) = false
            new
            cord({60, 59, 58, 57}, 1)
            spans(15, -1) = 854
            spans(15, {0, 1, 2, 100, 426, 427, 700, 851, 852, 853, 854}) = 8 16 24 720 3052 3056 5992 13120 13152 14976 -2
            new
            cord({1, 1, 1}, 1)
            spans(7, 0) = 8
            spans({1, 2, 4}, 0) = 32
            """);
        e.edge("III", "CORDS can give a SPAN, if it is one of theirs.", """
            cord({4, 9}, 1)
            can(1, {128, 256}) = true
            can(1, {127, 129, 255, 257, 0, -128, 15361, BIG, LOW}) = false !
            can(2, {288, 576}) = true
            can(2, {128, 256, 704}) = false
            can(3, {128, 256, 288, 576, 704, 832}) = true
            can(3, {703, 705, 831, 833, 15360}) = false
            """);
    }

    private void rowForASpan() {
        e.edge("III", "A ROW for a SPAN: of ROWS that have it the one with the fewest moments ahead of that at which the SPAN ends", """
            cord({1, 2}, 1)
            row(3, 128, -1..1) = 1 3 -2         // rather than CORD 0 first, which is a lower number
            between(3, 128, {false, true}) = 0 1
            row(3, 64, -1..1) = 1 1 -2
            row(3, 192, -1..2) = 2 1 3 -2
            row(3, 191, -1) = -2
            """);
        e.edge("III", "of like ones the lowest number at the first moment, then at the next, ..: how many moments there are ahead of that one, what is lit at each", """
            cord({1, 1, 1}, 1)
            row(7, 64, -1..0) = 1 1
            row(6, 64, -1..0) = 1 3
            row(7, 96, -1..2) = 2 1 6 -2        // rather than 2 and 3
            row(7, 128, -1..2) = 2 1 3 -2       // rather than 1 and 9
            row(5, 128, -1..2) = 2 1 9 -2
            row(7, 192, -1..3) = 3 1 3 9 -2
            row(7, 192, {-2, BIG, LOW}) = -2 !
            """);
        e.edge("III", "BETWEEN: the numbers of the moments (from 0) at which the SPAN begins and ends.", """
            cord({4, 9}, 1)
            between(3, 256, {false, true}) = 0 1
            between(3, 704, {false, true}) = 0 2
            between(3, 320, {false, true}) = 1 2
            between(3, 321, {false, true}) = -2 !
            new
            cord({1, 1, 1, 1}, 1)
            between(15, 256, {false, true}) = 0 4
            between(15, 4, {false, true}) = 3 4
            """);
    }

    private void nearestFewestCheapest() {
        e.edge("III", "NEAREST: the SPAN of theirs that is least unlike a number (1 .. 15360); of like ones the lower.", """
            cord(1, 1)
            nearest(1, {1, 2, 31, 32, 33, 47, 48, 49, 63, 64, 65, 15359, 15360}) = 32 32 32 32 32 32 32 64 64 64 64 64 64
            nearest(1, {0, -1, 15361, 15362, BIG, LOW}) = -1 !
            new
            cord({60, 60, 60, 60}, 1)
            nearest(15, {1, 15360, 15359, 14400, 14401}) = 240 15360 15360 13440 15360
            """);
        e.edge("III", "FEWEST: the CORDS of all that can give a SPAN, fewest; of like ones the lowest set.", """
            cord(4, 50)
            cord(2, 10)
            cord(2, 20)
            cord(4, 31)
            fewest(256) = 1                     // 8, too
            fewest(64) = 2                      // 4, too
            fewest(384) = 3
            fewest(512) = 9                     // rather than 7, the lower set
            fewest(768) = 15
            fewest({767, 769, 1, 15360}) = -1
            """);
        e.edge("III", "CHEAPEST: of least PRICE together; of like ones the fewest, then the lowest set.", """
            cord(4, 50)
            cord(2, 10)
            cord(2, 20)
            cord(4, 31)
            cheapest(256) = 6                   // 30 rather than 31
            cheapest(128) = 2
            cheapest(384) = 10
            cheapest(512) = 14
            cheapest(768) = 15
            cheapest(769) = -1
            new
            cord(2, 10)
            cord(2, 20)
            cord(4, 30)
            cheapest(256) = 4                   // one of 30 rather than two
            new
            cord({4, 2, 2, 2}, 0)
            cheapest(128) = 1
            cheapest(256) = 1
            cheapest(64) = 2
            cheapest(640) = 15
            new
            cord(2, 99)
            cord(2, 99)
            cord(4, 99)
            cheapest(256) = 4
            new
            cord({2, 2, 2}, 10)
            cord(6, 31)
            cheapest(384) = 7                   // three of 30 rather than one of 31
            new
            cord({2, 2, 2}, 10)
            cord(6, 30)
            cheapest(384) = 8
            """);
    }

    private void wanted() {
        e.edge("IV", "WANTED SPANS (4 at most, told: 1 .. 15360 SPARKS)", """
            want({0, -2, 15361, 15362, BIG, LOW}) = -2 !
            want(1) = 1
            want(15360) = 2
            want(2) = 3
            about(5) = 3
            want(15359) = 4
            want({1, 64, 15360}) = -2 !
            about(5) = 4
            want(-1) = 0
            want(1) = 1
            """);
    }

    private void bundles() {
        e.edge("IV", "a BUNDLE gives each by CORDS of its own", """
            cord(2, 5) = 0
            want(128) = 1
            bundle({false, true}) = 1 5
            want(64) = 2
            bundle({false, true}) = -1 !
            part(0..1) = -1 !
            cord(2, 5) = 1
            bundle({false, true}) = 3 10
            part(0..1) = 1 2
            cord({2, 2}, 5)
            want({64, 128}) = 3 4
            bundle({false, true}) = 15 20
            part(0..3) = 1 2 4 8
            want(-1) = 0
            want(256) = 1
            want(256) = 2
            bundle(false) = 15
            want(64) = 3
            bundle(false) = -1
            """);
        e.edge("IV", "of least PRICE together; of like ones the fewest CORDS, then the lowest set", """
            cord(4, 9)
            cord({2, 2}, 4)
            cord(1, 50)
            want(256) = 1
            bundle({false, true}) = 6 8         // 8 rather than 9
            new
            cord(4, 8)
            cord({2, 2}, 4)
            want(256) = 1
            bundle({false, true}) = 1 8         // one rather than two of the same
            new
            cord({2, 2}, 4)
            cord(4, 8)
            want(256) = 1
            bundle({false, true}) = 4 8
            new
            cord({2, 2, 2}, 4)
            want(256) = 1
            bundle({false, true}) = 3 8         // the lowest of three sets
            new
            cord({4, 4}, 0)
            want(128) = 1
            bundle({false, true}) = 1 0
            new
            cord({2, 2, 2}, 10)
            cord(6, 31)
            want(384) = 1
            bundle({false, true}) = 7 30        // three of 30 rather than one of 31
            new
            cord({2, 2, 2}, 10)
            cord(6, 30)
            want(384) = 1
            bundle({false, true}) = 8 30
            """);
        e.edge("IV", "PARTS: those CORDS for each (the BUNDLE is all of these); of like ones the lowest set for the first WANTED, then for the next, .. (nothing WANTED: no CORDS).", """
            bundle({false, true}) = 0
            part({0, -1, 4}) = -1
            cord({2, 2}, 4)
            cord(1, 4)
            bundle({false, true}) = 0
            part(0) = -1
            want(64) = 1
            part(0) = 1
            want(128) = 2
            bundle(false) = 3
            part(0..2) = 1 2 -1
            want(-1) = 0
            want({128, 64}) = 1 2
            part(0..1) = 1 2
            want(-1) = 0
            want({32, 64}) = 1 2
            bundle(false) = 5
            part(0..1) = 4 1
            new
            cord({2, 2, 2, 2}, 4)
            want({256, 128, 128}) = 1 2 3
            part(0..3) = 3 4 8 -1
            want(-1) = 0
            want({128, 256, 64}) = 1 2 3
            part(0..2) = 1 6 8
            """);
    }

    private void crews() {
        e.edge("IV", "CREWS: of all CORDS two crews take one each by turns; who can give the SPAN wanted of its own (1 .. 15360) first, by CORDS it took, wins", """
            crews({0, -1, 15361, 15362, BIG, LOW}, 64) = -2 !
            crews(64, {0, -1, 15361, 15362, BIG, LOW}) = -2 !
            take({0, -1, 15361, BIG, LOW}, 64) = -1 !
            take(64, {0, -1, 15361, BIG, LOW}) = -1 !
            crews({1, 15360}, {1, 15360}) = 0
            cord(9, 1)
            crews(576, 576) = 1                 // by the only one
            crews({575, 577}, 576) = 0
            cord({9, 9}, 1)
            crews(1152, 1152) = 1               // the one who begins takes two of three
            crews(1728, 576) = -1               // the other one has it by its first
            crews(576, 288) = 1                 // first
            cord(9, 1)
            crews(2304, 2304) = 0               // nobody takes four
            crews(1728, 1152) = -1
            """);
        e.edge("IV", "1, 0 or -1 for the one who begins, both playing as well as can be", """
            cord({4, 9}, 1)
            crews(832, 576) = 0                 // it takes what the other one needs
            crews(576, 256) = 1
            crews(100, 256) = 0
            crews(100, 64) = 0
            new
            cord({4, 4}, 1)
            crews(100, 256) = -1                // whatever it takes
            crews(512, 512) = 0
            new
            cord({4, 9, 9}, 1)
            crews(1152, 1152) = 0
            crews(100, 1152) = 0
            crews(576, 256) = 1
            """);
        e.edge("IV", "TAKEN first: the lowest CORD by which it comes so.", """
            take(64, 64) = -1
            cord({4, 9}, 1)
            take(832, 576) = 1                  // by CORD 0 the other one would win
            take(576, 256) = 1
            take(256, 576) = 0
            take(100, 64) = 0                   // nobody wins, whatever it takes
            cord(9, 1)
            take(1152, 1152) = 0
            take(576, 576) = 1                  // by CORD 0 the other one is first
            new
            cord({4, 4}, 1)
            take(100, 256) = 0                  // it is lost by either
            """);
    }

    private void tried() {
        e.edge("IV", "TRIED (8 at most; told: CORDS, whether it failed)", """
            tried({0, 1, -2}, true) = -2 !
            cord({1, 1}, 1)
            tried({0, 4, 5, -2, BIG, LOW}, {false, true}) = -2 !
            tried(1, true) = 1
            tried({2, 3, 2, 3, 2, 3}, true) = 2 3 4 5 6 7
            about(6) = 7
            tried(3, true) = 8
            tried({1, 3}, {false, true}) = -2 !
            suspects(0) = 1
            tried(-1, false) = 0
            about(6) = 0
            suspects(0) = 4
            """);
        e.edge("IV", "SUSPECTS are sets of CORDS (of all; none, too): WET ones of which each that failed has one, and no other one has any: how many sets there are", """
            suspects(0..3) = 1 0 0 0            // the set of none
            cord(1, 1) = 0
            suspects(0..3) = 2 0 0 0
            cord({1, 1, 1}, 1)
            suspects(0..3) = 16 0 0 0
            tried(15, true) = 1
            suspects(0..3) = 15 0 0 1           // not none
            tried(1, false) = 2
            suspects(0..3) = 7 0 1 2
            tried(6, true) = 3
            suspects(0..3) = 6 0 1 2
            tried(4, false) = 4
            suspects(0..3) = 2 2 5 2
            tried(8, true) = 5
            suspects(0..3) = 1 10 5 10
            tried(8, false) = 6
            suspects(0..3) = 0 -1 -1 -1
            tried(-1, true) = 0
            tried(15, false) = 1
            suspects(0..3) = 1 0 15 0           // none alone
            """);
    }

    private void whatToTry() {
        e.edge("IV", "WHAT TO TRY: CORDS (bits, one at least), so that, it failing or not, the most sets that can be left are fewest; of like ones the lowest; none (no set, or one).", """
            test() = -1                         // one set
            cord(1, 1)
            test() = 1                          // two
            tried(1, true) = 1
            test() = -1                         // one
            tried(1, false) = 2
            test() = -1                         // none
            tried(-1, true) = 0
            cord({1, 1, 1}, 1)
            test() = 1                          // 8 of 16; 2, 4, 8, too
            tried(3, true) = 1
            test() = 4                          // 6 of 12 rather than 8
            tried(4, true) = 2
            test() = 8
            tried(8, false) = 3
            suspects(0) = 3
            test() = 1                          // 2 of 3
            """);
    }

    private void odds() {
        e.edge("IV", "RIGHT: how likely so many lightings are all right at once, if each fizzles by odds of 10", """
            right(0, {0, 5, 10}, {false, true}) = 1
            right({1, 12}, 0, {false, true}) = 1
            right(1, 10, {false, true}) = 0 1
            right(12, 10, {false, true}) = 0 1
            right(1, 1, {false, true}) = 9 10
            right(1, 9, {false, true}) = 1 10
            right(2, 3, {false, true}) = 49 100
            right(2, 4, {false, true}) = 9 25
            right(3, 5, {false, true}) = 1 8
            right(12, 1, {false, true}) = 282429536481 1000000000000
            right(12, 8, {false, true}) = 1 244140625
            right(11, 3, {false, true}) = 1977326743 100000000000
            """);
        e.edge("IV", "in the end: each being tried again as often as it fizzles, up to so many times in all, in lowest terms.", """
            tries(0, {0, 5, 10}, {1, 4}, {false, true}) = 1
            tries(3, 0, {1, 4}, {false, true}) = 1
            tries(1, 10, 4, {false, true}) = 0 1
            tries(1, 5, 1, {false, true}) = 1 2     // once in all
            tries(1, 5, 2, {false, true}) = 3 4
            tries(1, 5, 4, {false, true}) = 15 16
            tries(2, 3, 2, {false, true}) = 8281 10000
            tries(3, 9, 4, {false, true}) = 40672093519 1000000000000
            tries(3, 1, 4, {false, true}) = 999700029999 1000000000000
            tries(3, 5, 4, {false, true}) = 3375 4096
            """);
    }

    private void whoseLaw() {
        e.edge("IV", "WHOSE LAW (told: SAID, 8 at most: a CORD, fails 0 .. 10 of it): TEXTS (bits) by whose fails all are so (as now).", """
            said(0, 5) = -2 !                   // no CORD
            cord({5, 9}, 1)
            said({2, -2, BIG, LOW}, 5) = -2 !
            said(0, {-1, 11, 12, BIG, LOW}) = -2 !
            whose() = 0                         // no TEXT
            text "fails rest-2;" = 0
            text "lights 9;" = 1
            text "fails 3+cord*4;" = 2
            text "fails 99*cord-5;" = 3
            whose() = 15                        // nothing was SAID
            said(0, 0) = 1
            whose() = 10
            said(1, 10) = 2
            whose() = 8                         // 10 at most, 0 at least
            said(-1, 0) = 0
            said({0, 1}, 3) = 1 2
            whose() = 0
            said(-1, 0) = 0
            said(0, 3) = 1
            whose() = 5
            light(0, false) = 1
            minute(1) = 0
            whose() = 4                         // as now
            undo() = 1
            whose() = 5
            said(1, 7) = 2
            whose() = 5
            said({0, 1, 0, 1, 0}, {5}) = 3 4 5 6 7
            whose() = 0
            said(1, 5) = 8
            said({0, 1}, {0, 10}) = -2 !
            about(7) = 8
            new                                 // each CORD by its own fails, the least and the most
            cord({5, 5, 5, 5}, 1)
            text "fails if cord/2*2=cord then 10 else 0 end;" = 0
            text "fails if cord/2*2=cord then 0 else 10 end;" = 1
            said({0, 2}, 10) = 1 2
            whose() = 1
            said({1, 3}, 0) = 3 4
            whose() = 1
            said(-1, 0) = 0
            said({0, 2}, 0) = 1 2
            whose() = 2
            said({1, 3}, 10) = 3 4
            whose() = 2
            """);
    }

    private void whatIsNow() {
        e.edge("IV", "LONGEST: the CORD of most REST (above 0); of like ones the lowest; none.", """
            longest() = -1
            cord({1, 2, 2}, 1)
            longest() = 1                       // 2, too
            hands(8)
            light(1, false) = 1
            minute(1) = 0
            longest() = 2
            light(2, {false, true}) = 1
            minute(1) = 2
            longest() = 0                       // the only one above 0
            light(0, false) = 1
            minute(1) = 1
            longest() = -1
            new
            cord({1, 1, 1, 2}, 0)
            hands(8)
            light(3, false) = 1
            """ + "text \"" + EdgesOfTerms.BURNS_127 + "\" = 0\n" + """
            played(0) = -1
            snuff(3, false) = true
            light(1, {false, true}) = 1
            burn() = 32
            of(0..3, 2) = 0 0 0 1
            longest() = 3                       // by one SPARK
            """);
        e.edge("IV", "BURNING: CORDS (bits) of which an end burns.", """
            burning() = 0
            cord({1, 2, 2, 2}, 1)
            hands(8)
            burning() = 0
            light(3, true) = 1
            burning() = 8
            light(0, {false, true}) = 1
            burning() = 9
            snuff(0, false) = true
            burning() = 9                       // the other end
            minute(1) = 1
            burning() = 8
            snuff(3, true) = true
            burning() = 0
            """);
        e.edge("IV", "DEAD: CORDS (bits) that are out.", """
            dead() = 0
            cord({1, 2, 2, 1}, 1)
            hands(8)
            light(0..3, false) = 1
            dead() = 0
            minute(1) = 2
            dead() = 9
            renew(0) = true
            dead() = 8
            minute(1) = 2
            dead() = 14
            """);
        e.edge("IV", "BY THE BOOK: how many lines there are of a kind.", "ledger(0..3) = 0\n" + """
            cord(60, 1)
            text "fails 10;" = 0
            """ + "light(0, false) = 1\nsnuff(0, false) = true\nminute(1) = 0\n".repeat(14) + """
            ledger(0..3) = 14 0 14 0
            by(0) = true
            light(0, false) = 0
            ledger(0..3) = 14 1 14 0
            light(0, false) = 0
            ledger(0..3) = 14 2 14 0            // 30 lines
            minute(1) = 0
            light(0, false) = 0
            ledger(0..3) = 13 3 14 0            // of the latest 30
            by(-1) = true
            light(0, true) = 1
            minute(60) = 1
            ledger(0..3) = 13 3 13 1
            """);
    }

    private void seeds() {
        e.edge("V", "SHIFTS by a SEED: X is SEED (0 .. 9999) * 2 + 311", """
            shifts({-1, -2, 10000, 10001, BIG, LOW}, 1) = -1 !
            shifts(0, 1) = 0
            is(1) = 23493                       // behind 311
            shifts(1, 1) = 0
            is(1) = 24631
            shifts(9998, 1) = 0
            is(1) = 12247                       // behind 20307
            shifts(9999, 1) = 0
            is(1) = 13385
            """);
        e.edge("V", "n times (1 .. 40)", """
            shifts(0, {0, -1, 41, 42, BIG, LOW}) = -1 !
            shifts(0, 1) = 0
            is(1) = 23493
            shifts(0, 2) = 0
            is(1) = 9002
            shifts(0, 39) = 576
            is(1) = 16937
            undo() = 2
            shifts(0, 40) = 576
            is(1) = 3139
            """);
        e.edge("V", "x is X, X anew (as in a draw)", """
            cord({5, 5, 5}, 1)
            shifts(1, 1) = 0
            is(1) = 24631                       // x was 313
            shifts(337, 2) = 0
            is(1) = 24321                       // 985, 6846, and 17407 for the draw
            undo() = 1
            text "fails 7;" = 0
            text "fails 8;" = 1
            by(0) = true
            shifts(337, 2) = 0
            of(0, 3) = 1                        // 7 isn't below 7
            undo() = 1
            by(1) = true
            shifts(337, 2) = 0
            of(0, 3) = 0                        // 7 is below 8
            book(0, 2) = 1
            """);
    }

    private void shiftsThatLight() {
        e.edge("V", "x mod 7: 0, 1, 2 the end (left, if x / 7 is even) of CORD x mod how many is LIT", """
            cord({5, 5, 5}, 1)
            shifts(337, 2) = 0                  // 6846: 0, 978, CORD 0
            of(0..2, 3) = 1 0 0
            undo() = 0
            shifts(16, 1) = 0                   // 343: 0, 49, CORD 1
            of(0..2, 3) = 0 2 0
            undo() = 0
            shifts(6, 1) = 0                    // 323: 1, 46, CORD 2
            of(0..2, 3) = 0 0 1
            undo() = 0
            shifts(225, 2) = 0                  // 2514: 1, 359, CORD 0
            of(0..2, 3) = 2 0 0
            undo() = 0
            shifts(120, 2) = 0                  // 6148: 2, 878, CORD 1
            of(0..2, 3) = 0 1 0
            undo() = 0
            shifts(3, 1) = 0                    // 317: 2, 45, CORD 2
            of(0..2, 3) = 0 0 2
            hands(1) = true
            shifts(16, 1) = 0                   // it can't be: one was lit
            is(1) = 10920
            of(0..2, 3) = 0 0 2
            hands(2) = true
            shifts(3, 1) = 0                    // it burns
            is(1) = 26907
            text "lights 0;" = 0
            by(0) = true
            shifts(16, 1) = 0                   // it can't be by the law
            of(0..2, 3) = 0 0 2
            is(2) = 1
            new
            cord(5, 1) = 0
            shifts(6, 1) = 0
            of(0, 3) = 1
            undo() = 0
            cord(5, 1) = 1
            shifts(6, 1) = 0
            of(0..1, 3) = 0 1
            undo() = 0
            cord({5, 5}, 1) = 2 3
            shifts(6, 1) = 0
            of(0..3, 3) = 0 0 0 1
            """);
    }

    private void otherShifts() {
        e.edge("V", "3 it is SNUFFED", """
            cord({5, 5, 5}, 1)
            hands(8)
            shifts(14, 1) = 0                   // left of CORD 0 burns not
            book(-1, 0) = 0
            light(0, {false, true}) = 1
            shifts(7, 1) = 0                    // left of CORD 1 burns not
            of(0..2, 3) = 3 0 0
            shifts(14, 1) = 0
            of(0..2, 3) = 2 0 0
            book(2, 0..3) = 0 0 2 0
            shifts(172, 2) = 0                  // 655: CORD 1 is as new; 3762: right of CORD 0
            of(0..2, 3) = 0 0 0
            book(3, 0..3) = 0 0 2 1
            """);
        e.edge("V", "4 CORD x mod how many is RENEWED", """
            cord({5, 5, 5}, 1)
            hands(8)
            light(0..2, false) = 1
            minute(1) = 0
            shifts(11, 1) = 64
            of(0..2, 2) = 320 256 256
            shifts(4, 1) = 64
            of(0..2, 2) = 320 320 256
            shifts(18, 1) = 64
            of(0..2, 2) = 320 320 320
            is(3) = 0
            """);
        e.edge("V", "5 BURNT", """
            cord({1, 5}, 1)
            shifts(1, 1) = 0                    // nothing burns
            about(4) = 1
            light(0..1, false) = 1
            shifts(1, 1) = 64
            of(0..1, 2) = 0 256
            shifts(1, 1) = 320
            of(0..1, 2) = 0 0
            new
            """ + EdgesOfTerms.late(9998) + """
            cord({1, 2}, 1)
            light(1, false) = 1
            shifts(1, 1) = 639872               // beyond 9999 MINUTES
            of(1, 2) = 128
            light(0, false) = 1
            shifts(1, 1) = 639936
            of(0..1, 2) = 0 64
            """);
        e.edge("V", "6 1 and x mod 5 MINUTES, all or none (each if it can be).", """
            shifts(12, 1) = 64
            shifts(5, 1) = 192
            shifts(33, 1) = 384
            shifts(26, 1) = 640
            shifts(19, 1) = 960
            new
            """ + EdgesOfTerms.late(9994) + """
            image() = 639616
            shifts(19, 1) = 639936              // 5 of 5
            is(0) = 639936
            shifts(12, 1) = 639936              // 1 of 0
            back() = 639616
            minute(1) = 0
            shifts(19, 1) = 639680              // 5 of 4: none
            shifts(26, 1) = 639936              // 4 of 4
            back() = 639616
            minute(4) = 0
            shifts(5, 1) = 639872               // 2 of 1: none
            shifts(12, 1) = 639936              // 1 of 1
            """);
        e.edge("V", "What there are none of isn't.", """
            shifts({2, 6, 3, 14, 4, 1}, 1) = 0  // no CORD, of each kind
            book(-1, 0) = 0
            is(1..3) = 24631 0 0
            shifts(5, 1) = 128                  // MINUTES there are
            """);
    }

    private void shiftsAsAStep() {
        e.edge("V", "It is one STEP: SPARKS.", """
            cord({3, 4, 5}, 1)
            minute(1) = 0
            shifts(77, 40)
            about(4) = 2
            is(1)
            undo() = 1
            is(0..3) = 64 311 0 0
            of(0..2, 2) = 192 256 320
            book(-1, 0) = 0
            shifts(5, 1) = 192                  // SPARKS in all, not those that passed
            shifts(0, 1) = 192                  // a STEP, though nothing was done
            about(4) = 3
            undo() = 2
            undo() = 1
            is(0) = 64
            """);
    }

    private void image() {
        String allTold = """
            cord({4, 9}, 3) = 0 1
            hands(3) = true
            text "fails 1;lights 5;" = 0
            by(0) = true
            wet(1, true) = true
            want(256) = 1
            tried(1, true) = 1
            said(0, 1) = 1
            light(0, false) = 1
            minute(1) = 0
            light(0, true) = 1
            """;
        String allAsTold = """
            about(0..7) = 2 3 1 0 3 1 1 1
            is(0..3) = 64 9002 1 2
            of(0, 0..4) = 4 3 192 3 0
            of(1, 0..4) = 9 3 576 0 1
            book(-1, 0) = 2
            book(0, 0..3) = 0 0 0 0
            book(1, 0..3) = 64 0 0 1
            law(0, false, {true, false}) = 5 1
            part(0) = 1
            suspects(0..3) = 2 1 0 1
            whose() = 1
            """;
        String allOther = """
            undo() = 2
            minute(40) = 1
            renew(0) = true
            shifts(77, 40)
            cord(7, 7) = 2
            hands(5) = true
            text "fails 9;" = 1
            by(1) = true
            wet(0, true) = true
            wet(1, false) = true
            want(-1) = 0
            want({64, 64}) = 1 2
            tried(2, true) = 2
            said(0, 9) = 2
            """;
        e.edge("V", "AN IMAGE: all as it is, but the tape and the latest FAULT.", allTold + "image() = 64\n" + allAsTold + allOther + """
            text "burn $" = -1
            tape "hands 4;"
            back() = 64
            """ + allAsTold + """
            fault(0..1) = 1 5
            about(8) = 8
            text() = 1
            played(1) = -1
            about(1) = 4
            """);
        e.edge("V", "BACK: all is so again.", allTold + "image() = 64\n" + allOther + "back() = 64\n" + allAsTold + """
            undo() = 2
            is(0..3) = 64 23493 0 1
            undo() = 1
            undo() = 0
            is(0..3) = 0 311 0 0
            undo() = -1
            back() = 64
            """ + allAsTold + """
            cord({1, 1}, 1) = 2 3
            cord(1, 1) = -1
            can(4, {32, 64}) = true
            can(5, 288) = true
            row(4, 64, 0) = 9
            back() = 64
            about(0) = 2
            of(2, 0) = -1
            can(4, 64) = false
            row(4, 64, 0) = -2
            cord(2, 2) = 2                      // another one of that number
            row(4, 64, 0) = 18
            can(4, {64, 128}) = true
            can(4, 32) = false
            can(5, {256, 320, 384}) = true
            can(5, 288) = false
            """);
    }
}
