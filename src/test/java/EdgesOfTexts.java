/** The sentences of part II: TEXTS, their FAULTS, what a law says, PLAYED. */
final class EdgesOfTexts {
    private final Edges e;

    EdgesOfTexts(Edges edges) {
        e = edges;
    }

    void all() {
        texts();
        letters();
        digits();
        signs();
        clauses();
        clausesThatAct();
        sums();
        ones();
        asks();
        names();
        workedOut();
        limits();
        faults();
        faultsOfNumbers();
        faultsOfDepth();
        depthOfEachKind();
        faultsOfClauses();
        rules();
        played();
        playedEnds();
    }

    private void texts() {
        String longest = "lights 11" + "+0".repeat(145) + ";";
        e.edge("II", "TEXTS 0 .. 3: of up to 300 bytes.", """
            about(2) = 0
            by(0) = false !
            text "burn;" = 0
            by(1) = false !
            text "fails 1;" = 1
            text "fails 2;" = 2
            by(3) = false !
            about(2) = 3
            text "fails 3;" = 3
            by(3) = true
            by(4) = false !
            tape "fails 4;"
            text() = -1 !
            about(2) = 4
            new
            cord(5, 5) = 0
            """ + "text \"" + longest + "\" = 0\n" + """
            by(0) = true
            law(0, false, true) = 11
            """ + "tape \"" + longest + "\"\n" + """
            about(8) = 300
            feed(0, 0, 0, 0, 0) = -1 !
            end(299) = 299
            feed(0, 0, 0, 0, 0) = -1 !
            text() = -1
            fault(0..1) = 1 299
            """);
    }

    private void letters() {
        StringBuilder lines = new StringBuilder();
        for (int b = 0; b < 256; b++) {
            boolean letter = b >= 'a' && b <= 'z' || b >= 'A' && b <= 'Z';
            String text = String.format("\"burn\\x%02X;\"", b);
            if (b == ' ' || b == '\n') {
                lines.append("fine ").append(text).append('\n');
            } else {
                lines.append("fault ").append(text).append(" = 1 ").append(letter ? 0 : b == ';' ? 5 : 4).append('\n');
            }
        }
        e.edge("II", "letters a .. z, A .. Z one behind the other (one TOKEN)", lines + """
            fault "Burn;" = 1 0
            fault "burN;" = 1 0
            fault "bur;" = 1 0
            fault "burnburn;" = 1 0
            fault "bu rn;" = 1 0
            fine "burn;burn;"
            """);
        e.edge("II", "TOKENS, blanks (32, 10) aside", """
            fine "\\n \\n burn \\n ; minute\\n3\\n; "
            fine " "
            fine "\\n"
            fine ""
            fine "burn;"
            fault "\\x09burn;" = 1 0
            fault "burn;\\x0D\\n" = 1 5
            fault " \\x0Bburn;" = 1 1
            fault "burn;  \\x00" = 1 7
            fault "burn;\\xA0" = 1 5
            fault "burn;\\xFF" = 1 5
            """ + "fine \"" + " ".repeat(300) + "\"\nfine \"" + " ".repeat(295) + "burn;\"\nfault \"" + " ".repeat(299) + ";\" = 1 299\n");
    }

    private void digits() {
        StringBuilder lines = new StringBuilder();
        for (int b = 0; b < 256; b++) {
            String text = String.format("\"minute 1\\x%02X;\"", b);
            boolean fits = b >= '0' && b <= '9' || b == ' ' || b == '\n';
            lines.append(fits ? "fine " + text : "fault " + text + " = 1 " + (b == ';' ? 9 : 8)).append('\n');
        }
        e.edge("II", "digits likewise (NUMBERS, 0 .. 9999)", lines + """
            fine "lights 0;"
            fine "lights 9999;"
            fine "lights 9998;"
            fine "lights 000000009999;"
            fault "lights 10000;" = 2 7
            fault "lights 010000;" = 2 7
            fault "lights 4294967297;" = 2 7
            fault "lights 18446744073709551617;" = 2 7
            fault "lights 1 0;" = 1 9
            fault "lights 1a;" = 1 8
            cord(5, 5)
            lights 0 "0" = 0
            lights 0 "0047" = 47
            lights 0 "9999-9900" = 99
            """);
    }

    private void signs() {
        e.edge("II", "<= >= < > = # + - * / ( ) ; (the longest)", """
            fine "lights(1+2-3)*4/5;"
            fine "lights if 1<=2 or 1>=2 or 1<2 or 1>2 or 1=2 or 1#2 then 1 else 2 end;"
            cord(5, 5)
            lights 0 "if 2<=2 then 5 else 6 end" = 5
            lights 0 "if 2>=2 then 5 else 6 end" = 5
            fault "lights if 1< =2 then 1 else 2 end;" = 1 13
            fault "lights if 1> =2 then 1 else 2 end;" = 1 13
            fault "lights if 1<==2 then 1 else 2 end;" = 1 13
            fault "lights if 1>==2 then 1 else 2 end;" = 1 13
            fault "lights if 1<>2 then 1 else 2 end;" = 1 12
            fault "lights if 1=<2 then 1 else 2 end;" = 1 12
            fault "lights if 1==2 then 1 else 2 end;" = 1 12
            fault "lights if 1##2 then 1 else 2 end;" = 1 12
            fault "lights if 1!2 then 1 else 2 end;" = 1 11
            fault "lights 1%2;" = 1 8
            fault "lights [1];" = 1 7
            fault "burn:" = 1 4
            fault "burn,burn;" = 1 4
            """);
    }

    private void clauses() {
        String many = "burn;".repeat(23);
        e.edge("II", "{CLAUSE}, 24 at most", "fine \"\"\nfine \"" + many + "\"\nfine \"" + many + "burn;\"\nfault \"" + many + "burn;burn;\" = 6 120\n" + """
            fine "burn;"
            fault "burn" = 1 4
            fault ";" = 1 0
            fault "burn;;" = 1 5
            """);
        e.edge("II", "lights SUM ; or fails SUM ; (each once)", """
            fine "lights 1;"
            fine "fails 1;"
            fine "lights 1;fails 1;"
            fine "fails 1;burn;lights 1;"
            fault "lights 1;lights 1;" = 4 9
            fault "fails 1;fails 1;" = 4 8
            fault "lights 1;fails 2;burn;lights 3;" = 4 22
            fault "lights;" = 1 6
            fault "fails" = 1 5
            fault "lights 1" = 1 8
            fault "lights 1 2;" = 1 9
            """);
    }

    private void clausesThatAct() {
        e.edge("II", "or cord NUMBER price NUMBER ; (MINUTES)", """
            text "cord 60 price 99;cord 1 price 0;" = 0
            played(0) = -1
            of(0..1, 0) = 60 1
            of(0..1, 1) = 99 0
            fault "cord;" = 1 4
            fault "cord 5;" = 1 6
            fault "cord 5 price;" = 1 12
            fault "cord 5 5;" = 1 7
            fault "cord price 5;" = 1 5
            fault "cord 5 price 5" = 1 14
            fault "cord -5 price 5;" = 1 5
            fault "price 5;" = 1 0
            """);
        e.edge("II", "or hands NUMBER ;", """
            text "hands 8;" = 0
            text "hands 1;" = 1
            played(0) = -1
            about(1) = 8
            played(1) = -1
            about(1) = 1
            fault "hands;" = 1 5
            fault "hands (2);" = 1 6
            fault "hands 2 2;" = 1 8
            """);
        e.edge("II", "or left NUMBER ; or right NUMBER ; (an end of that CORD is LIT, whether it fizzles or not)", """
            cord({5, 5, 5, 5}, 0)
            text "left 0;" = 0
            text "right 3;" = 1
            text "fails 10; left 1; minute 1;" = 2
            played(0) = -1
            of(0..3, 3) = 1 0 0 0
            played(1) = -1
            of(0..3, 3) = 1 0 0 2
            minute(1) = 0
            by(2) = true
            played(2) = -1              // it fizzles, and goes on
            of(1, 3) = 0
            ledger(1) = 1
            is(0) = 128
            fault "left;" = 1 4
            fault "right time;" = 1 6
            fault "left 0" = 1 6
            """);
        e.edge("II", "or snuff NUMBER ; (its left end, or, if that burns not, its right one)", """
            cord({5, 5}, 0)
            text "snuff 0;" = 0
            light(0, {false, true}) = 1
            played(0) = -1
            of(0, 3) = 2
            book(2, 0..3) = 0 0 2 0
            played(0) = -1
            of(0, 3) = 0
            book(3, 0..3) = 0 0 2 1
            played(0) = 0 !             // neither burns
            """);
        e.edge("II", "or renew NUMBER ; or burn ; or minute NUMBER ;.", """
            cord(5, 0)
            text "renew 0;" = 0
            text "burn;" = 1
            text "minute 60;" = 2
            played(0..1) = 0 !
            played(2) = -1
            is(0) = 3840
            about(4) = 30
            light(0, true) = 1
            played(1) = -1
            is(0) = 4160
            played(1) = 0 !
            played(0) = -1
            of(0, 2) = 320
            fault "renew;" = 1 5
            fault "burn 1;" = 1 5
            fault "minute;" = 1 6
            fault "minute 5" = 1 8
            """);
    }

    private void sums() {
        e.edge("II", "SUM: PRODUCT {+ or - PRODUCT}.", """
            cord(5, 5)
            lights 0 "7" = 7
            lights 0 "7+2" = 9
            lights 0 "7-2" = 5
            lights 0 "7-2+1" = 6
            lights 0 "2+3*4" = 14
            lights 0 "20-6/2" = 17
            fault "lights ;" = 1 7
            fault "lights +1;" = 1 7
            fault "lights 1+;" = 1 9
            fault "lights 1++1;" = 1 9
            fault "lights 1 1;" = 1 9
            """);
        e.edge("II", "PRODUCT: ONE {* or / ONE}.", """
            cord(5, 5)
            lights 0 "7" = 7
            lights 0 "7*2" = 14
            lights 0 "7/2" = 3
            lights 0 "7/2*4" = 12
            lights 0 "3*-4" = -12
            fault "lights *1;" = 1 7
            fault "lights 1*;" = 1 9
            fault "lights 1*/2;" = 1 9
            fault "lights 1/+2;" = 1 9
            """);
    }

    private void ones() {
        e.edge("II", "ONE: NUMBER, NAME, ( SUM ), - ONE", """
            cord(5, 20)
            lights 0 "12" = 12
            lights 0 "price" = 20
            lights 0 "(12)" = 12
            lights 0 "((1+2)*3)" = 9
            lights 0 "-12" = -12
            lights 0 "--12" = 12
            lights 0 "-(1+2)" = -3
            lights 0 "-1+3" = 2
            lights 0 "2--3" = 5
            lights 0 "-price" = -20
            fault "lights ();" = 1 8
            fault "lights (1;" = 1 9
            fault "lights 1);" = 1 8
            fault "lights -;" = 1 8
            fault "lights -+1;" = 1 8
            fault "lights hands;" = 1 7
            fault "lights Price;" = 1 7
            fault "lights not 1;" = 1 7
            fault "lights then;" = 1 7
            """);
        e.edge("II", "twos ONE (the greatest of 1, 2, 4, .. that parts it, sign aside; 0 of 0)", """
            cord(5, 20)
            lights 0 "twos 0" = 0
            lights 0 "twos 1" = 1
            lights 0 "twos 2" = 2
            lights 0 "twos 3" = 1
            lights 0 "twos 63" = 1
            lights 0 "twos 64" = 64
            lights 0 "twos 65" = 1
            lights 0 "twos 96" = 32
            lights 0 "twos -1" = 1
            lights 0 "twos -2" = 2
            lights 0 "twos -96" = 32
            lights 0 "twos -(1-1)" = 0
            lights 0 "twos 8192/128" = 64
            lights 0 "twos(8192*64)/8192" = 64
            lights 0 "twos(9999*9999)" = 64
            lights 0 "twos-(9999*9999)" = 64
            lights 0 "twos 4*3" = 12
            lights 0 "twos twos 12" = 4
            lights 0 "-twos 12" = -4
            fault "lights twos;" = 1 11
            fault "lights twos*2;" = 1 11
            """);
        e.edge("II", "out ONE (1, if the CORD of that number is out; else 0, also for others)", """
            lights 0 "5" = -100         // no CORD yet
            cord({1, 5, 1}, 0)
            lights 1 "out 0" = 0
            light({0, 2}, false) = 1
            lights 1 "out 0+out 2" = 0  // they burn
            minute(1) = 2
            lights 1 "out 0" = 1
            lights 1 "out 1" = 0
            lights 1 "out 2" = 1
            lights 1 "out 3" = 0
            lights 1 "out 4" = 0
            lights 1 "out -1" = 0
            lights 1 "out 9999" = 0
            lights 1 "out(9999*9999)" = 0
            lights 1 "out -(9999*9999)" = 0
            lights 1 "out cord" = 0
            lights 0 "out cord" = 1
            lights 1 "out 1-1" = -1
            lights 1 "out(1-1)" = 1
            fails 1 "out 2*7" = 7
            cord(5, 5) = 3
            lights 1 "out 3" = 0
            renew(0) = true
            lights 1 "out 0" = 0
            fault "lights out;" = 1 10
            """);
        e.edge("II", "if EITHER then SUM else SUM end.", """
            cord(5, 5)
            lights 0 "if 1=1 then 7 else 8 end" = 7
            lights 0 "if 1=2 then 7 else 8 end" = 8
            lights 0 "if 1+1=2 then 2+5 else 8 end*3-1" = 20
            lights 0 "if 1=2 then 7 else if 1=1 then 8 else 9 end end" = 8
            lights 0 "if if 1=1 then 1 else 2 end=1 then 7 else 8 end" = 7
            fault "lights if then 7 else 8 end;" = 1 10
            fault "lights if 1 then 7 else 8 end;" = 1 12
            fault "lights if 1=1 7 else 8 end;" = 1 14
            fault "lights if 1=1 then else 8 end;" = 1 19
            fault "lights if 1=1 then 7 8 end;" = 1 21
            fault "lights if 1=1 then 7 end;" = 1 21
            fault "lights if 1=1 then 7 else end;" = 1 26
            fault "lights if 1=1 then 7 else 8;" = 1 27
            fault "lights if 1=1 then 7 else 8 else 9 end;" = 1 28
            """);
    }

    private void asks() {
        e.edge("II", "EITHER: BOTH {or BOTH}. BOTH: ASK {and ASK}.", """
            cord(5, 5)
            lights 0 "if 1=1 or 1=1 then 7 else 8 end" = 7
            lights 0 "if 1=2 or 1=1 then 7 else 8 end" = 7
            lights 0 "if 1=1 or 1=2 then 7 else 8 end" = 7
            lights 0 "if 1=2 or 1=2 then 7 else 8 end" = 8
            lights 0 "if 1=1 and 1=1 then 7 else 8 end" = 7
            lights 0 "if 1=2 and 1=1 then 7 else 8 end" = 8
            lights 0 "if 1=1 and 1=2 then 7 else 8 end" = 8
            lights 0 "if 1=2 and 1=2 then 7 else 8 end" = 8
            lights 0 "if 1=1 or 1=1 and 1=2 then 7 else 8 end" = 7
            lights 0 "if 1=2 and 1=2 or 1=1 then 7 else 8 end" = 7
            lights 0 "if 1=2 and 1=1 or 1=2 then 7 else 8 end" = 8
            lights 0 "if 1=2 or 1=2 or 1=1 then 7 else 8 end" = 7
            lights 0 "if 1=1 and 1=1 and 1=2 then 7 else 8 end" = 8
            fault "lights if or 1=1 then 7 else 8 end;" = 1 10
            fault "lights if 1=1 or then 7 else 8 end;" = 1 17
            fault "lights if 1=1 and or 1=1 then 7 else 8 end;" = 1 18
            fault "lights if (1=1) then 7 else 8 end;" = 1 12
            fault "lights 1=1 or 1=1;" = 1 8
            """);
        e.edge("II", "ASK: not ASK, or SUM one of < <= > >= = # (unlike) SUM.", """
            cord(5, 5)
            lights 0 "if 1<2 then 7 else 8 end" = 7
            lights 0 "if 2<2 then 7 else 8 end" = 8
            lights 0 "if 3<2 then 7 else 8 end" = 8
            lights 0 "if 1<=2 then 7 else 8 end" = 7
            lights 0 "if 2<=2 then 7 else 8 end" = 7
            lights 0 "if 3<=2 then 7 else 8 end" = 8
            lights 0 "if 1>2 then 7 else 8 end" = 8
            lights 0 "if 2>2 then 7 else 8 end" = 8
            lights 0 "if 3>2 then 7 else 8 end" = 7
            lights 0 "if 1>=2 then 7 else 8 end" = 8
            lights 0 "if 2>=2 then 7 else 8 end" = 7
            lights 0 "if 3>=2 then 7 else 8 end" = 7
            lights 0 "if 1=2 then 7 else 8 end" = 8
            lights 0 "if 2=2 then 7 else 8 end" = 7
            lights 0 "if 3=2 then 7 else 8 end" = 8
            lights 0 "if 1#2 then 7 else 8 end" = 7
            lights 0 "if 2#2 then 7 else 8 end" = 8
            lights 0 "if 3#2 then 7 else 8 end" = 7
            lights 0 "if -1<0 then 7 else 8 end" = 7
            lights 0 "if not 2=2 then 7 else 8 end" = 8
            lights 0 "if not 2=3 then 7 else 8 end" = 7
            lights 0 "if not not 2=2 then 7 else 8 end" = 7
            lights 0 "if not 1=1 or 1=1 then 7 else 8 end" = 7     // not takes one ASK
            lights 0 "if not 1=2 and 1=2 then 7 else 8 end" = 8
            fault "lights if not then 7 else 8 end;" = 1 14
            fault "lights if not 1 then 7 else 8 end;" = 1 16
            fault "lights if 1<2<3 then 7 else 8 end;" = 1 13
            fault "lights if 1=not 1=1 then 7 else 8 end;" = 1 12
            fault "lights if <1 then 7 else 8 end;" = 1 10
            """);
    }

    private void names() {
        e.edge("II", "NAMES: time (MINUTES that passed, cut)", """
            cord({1, 1, 1}, 0)
            hands(8)
            lights 0 "time" = 0
            """ + "text \"" + EdgesOfTerms.BURNS_127 + "\" = 0\n" + """
            minute(1) = 0
            lights 1 "time" = 1
            undo() = 0
            played(0) = -1
            is(0) = 127
            lights 1 "time" = 1
            fails 1 "time" = 1
            minute(1) = 0
            lights 1 "time" = 2         // 191
            new
            cord({1, 1, 1}, 0)
            """ + "text \"" + EdgesOfTerms.BURNS_129 + "\" = 0\n" + """
            played(0) = -1
            is(0) = 129
            lights 1 "time" = 2
            new
            """ + EdgesOfTerms.late(9999) + """
            cord(1, 1) = 0
            lights 0 "time-9900" = 99
            lights 0 "time-9901" = 98
            """);
        e.edge("II", "cord, rest (in MINUTES, cut), long (MINUTES as told), price", """
            cord({1, 1, 1, 3}, 7)
            hands(8)
            lights 3 "cord" = 3
            lights 0 "cord" = 0
            lights 3 "rest" = 3
            lights 0 "rest" = 1
            light(3, false) = 1
            """ + "text \"" + EdgesOfTerms.BURNS_127 + "\" = 0\n" + """
            played(0) = -1
            of(3, 2) = 65
            lights 3 "rest" = 1
            lights 3 "long" = 3
            lights 3 "price" = 7
            lights 0 "rest" = 0         // it is out
            fails 3 "cord" = 3
            fails 3 "rest" = 1
            fails 3 "long" = 3
            fails 3 "price" = 7
            new
            cord({1, 1, 1, 3}, 7)
            hands(8)
            light(3, false) = 1
            minute(2) = 0
            of(3, 2) = 64
            lights 3 "rest" = 1
            undo() = 2
            undo() = 1
            """ + "text \"" + EdgesOfTerms.BURNS_129 + "\" = 0\n" + """
            played(0) = -1
            of(3, 2) = 63
            lights 3 "rest" = 0
            new
            cord({60, 1}, 99)
            lights 0 "rest" = 60
            lights 0 "long" = 60
            lights 1 "long" = 1
            lights 0 "price" = 99
            """);
        e.edge("II", "lit (how many ends burn of all) in both", """
            cord({5, 5, 5, 5}, 0)
            hands(8)
            lights 0 "lit" = 0
            light(1, true) = 1
            lights 0 "lit" = 1
            lights 1 "lit" = 1
            light(1, false) = 1
            light({0, 2, 3}, {false, true}) = 1
            lights 0 "lit" = 8
            fails 0 "lit" = 8
            snuff(3, true) = true
            lights 0 "lit" = 7
            minute(60) = 4
            lights 0 "lit" = 0
            fine "lights time+cord+rest+long+price+lit;fails time+cord+rest+long+price+lit;"
            """);
        e.edge("II", "side (0 left, 1 right) in lights.", """
            cord(5, 5) = 0
            text "lights side*50+7;" = 0
            by(0) = true
            law(0, false, true) = 7
            law(0, true, true) = 57
            text "lights side;" = 1
            by(1) = true
            light(0, false) = -1 !
            light(0, true) = 1
            fault "fails side;" = 5 6
            fault "lights side;fails side;" = 5 18
            """);
    }

    private void workedOut() {
        e.edge("II", "From the left; / cuts towards 0, by 0 it is 0", """
            cord(5, 5)
            lights 0 "9-3-2" = 4
            lights 0 "9-3+2" = 8
            lights 0 "40/4/5" = 2
            lights 0 "7/2*2" = 6
            lights 0 "2*7/4" = 3
            lights 0 "7/2" = 3
            lights 0 "-7/2" = -3
            lights 0 "7/-2" = -3
            lights 0 "-7/-2" = 3
            lights 0 "1/2" = 0
            lights 0 "-1/2" = 0
            lights 0 "7/0" = 0
            lights 0 "-7/0" = 0
            lights 0 "0/0" = 0
            lights 0 "7/0+5" = 5
            lights 0 "7/(3-3)*9" = 0
            """);
        e.edge("II", "or and and look at both sides always, of if just the SUM that is chosen is asked.", """
            cord(5, 5)
            lights 0 "if 1=1 or 1/0=1 then 7 else 8/0 end" = 7
            lights 0 "if 1=2 and 1/0=0 then 7/0 else 8 end" = 8
            fault "lights if 1=1 or side then 7 else 8 end;" = 1 22
            fault "fails if 1=1 or side=1 then 7 else 8 end;" = 5 16
            fault "fails if 1=1 then 7 else side end;" = 5 25
            """);
    }

    private void limits() {
        e.edge("II", "what is above 1000000 (below the same less) is that, at each step.", """
            cord(5, 5)
            lights 0 "9999*100+99-9999*100-98" = 1          // 999999
            lights 0 "9999*100+100-9999*100-99" = 1         // 1000000
            lights 0 "9999*100+101-9999*100-99" = 1         // would be 1000001
            lights 0 "9999*100+9999-9999*100-99" = 1
            lights 0 "0-9999*100-99+9999*100+98" = -1
            lights 0 "0-9999*100-100+9999*100+99" = -1
            lights 0 "0-9999*100-101+9999*100+99" = -1
            lights 0 "0-9999*100-9999+9999*100+99" = -1
            lights 0 "1000*1000-9999*100-99" = 1
            lights 0 "1001*1000-9999*100-99" = 1
            lights 0 "-1000*1000+9999*100+99" = -1
            lights 0 "-1000*1001+9999*100+99" = -1
            lights 0 "9999*9999*9999*9999/5000/20" = 10     // at each step
            lights 0 "-9999*9999*9999/5000/20" = -10
            lights 0 "(9999*9999-1)/5000-150" = 49          // 999999 by 5000
            lights 0 "(9999*9999+1)/5000-150" = 50
            lights 0 "9999*9999-9999*9999" = 0
            """);
    }

    private void faults() {
        e.edge("II", "FAULTS, the first as TOKENS are come to, at the TOKEN's first byte (of the end at the length), of one the least", """
            fault "burn; $ hands 9; $" = 1 6
            fault "hands 9; $" = 2 6
            fault "hands  \\n 99;" = 2 9
            fault "burn; cord 61 price 100;" = 2 11
            fault "burn; cord 60 price 100;" = 2 20
            fault "burn" = 1 4
            fault "burn  \\n" = 1 7
            fault "lights 1+ " = 1 10
            fault "lights" = 1 6
            fault "minute 5" = 1 8
            fault "10000;" = 1 0                            // 1 rather than 2
            fault "burn 10000;" = 1 5
            fault "lights 1 10000;" = 1 9
            fault "lights ((((((((1 (1)))))))));" = 1 17    // 1 rather than 3
            fault "lights ((((((((not 1))))))));" = 1 15
            fault "fails 1 side;" = 1 8                     // 1 rather than 5
            """ + "fault \"" + "burn;".repeat(24) + "side;\" = 1 120\n"
            + "fault \"" + "burn;".repeat(23) + "fails 1;fails 2;\" = 4 123\n"
            + "fault \"" + "burn;".repeat(24) + "fails side;\" = 6 120\n");
        e.edge("II", "1 it can't stand there, or is none.", """
            fault "lights 1;price 5;" = 1 9
            fault "end;" = 1 0
            fault "lights lights;" = 1 7
            fault "cord cord;" = 1 5
            fault "burn )" = 1 5
            fault "burn;?" = 1 5
            fault "unknown;" = 1 0
            fault "lights unknown;" = 1 7
            fault "lights 5 unknown;" = 1 9
            fault "lights ~;" = 1 7
            fault "minute 5 ~" = 1 9
            fault "\\x80" = 1 0
            """);
    }

    private void faultsOfNumbers() {
        e.edge("II", "2 a NUMBER that isn't one of those told (above 9999; MINUTES of cord, minute 1 .. 60, PRICE 0 .. 99, HANDS 1 .. 8, CORDS 0 .. 3).", """
            fine "lights 9999;"
            fault "lights 10000;" = 2 7
            fault "fails 1+20000;" = 2 8
            fine "cord 1 price 0;cord 60 price 99;cord 2 price 1;cord 59 price 98;"
            fault "cord 0 price 5;" = 2 5
            fault "cord 61 price 5;" = 2 5
            fault "cord 10000 price 5;" = 2 5
            fault "cord 5 price 100;" = 2 13
            fault "cord 5 price 10000;" = 2 13
            fine "minute 1;minute 2;minute 59;minute 60;"
            fault "minute 0;" = 2 7
            fault "minute 61;" = 2 7
            fault "minute 00;" = 2 7
            fault "minute 4294967297;" = 2 7
            fine "hands 1;hands 2;hands 7;hands 8;"
            fault "hands 0;" = 2 6
            fault "hands 9;" = 2 6
            fault "hands 10;" = 2 6
            fine "left 0;left 3;right 0;right 3;snuff 0;snuff 3;renew 0;renew 3;"
            fault "left 4;" = 2 5
            fault "right 4;" = 2 6
            fault "snuff 4;" = 2 6
            fault "renew 4;" = 2 6
            fault "left 9999;" = 2 5
            """);
    }

    private void faultsOfDepth() {
        e.edge("II", "3 the 9th of ( not twos out if and - (of one ONE) that are open around one another (at it).", """
            fine "lights ((((((((1))))))));"
            fault "lights (((((((((1)))))))));" = 3 15
            fine "lights --------1;"
            fault "lights ---------1;" = 3 15
            fine "lights twos twos twos twos twos twos twos twos 1;"
            fault "lights twos twos twos twos twos twos twos twos twos 1;" = 3 47
            fine "lights out out out out out out out out 1;"
            fault "lights out out out out out out out out out 1;" = 3 39
            fine "lights if not not not not not not not 1=1 then 1 else 1 end;"
            fault "lights if not not not not not not not not 1=1 then 1 else 1 end;" = 3 38
            fine "lights (-twos out(-(-1)));"
            fault "lights (-twos out(-(-(-1))));" = 3 21
            fine "lights (1)+(1)+(1)+(1)+(1)+(1)+(1)+(1)+(1);"      // one behind the other
            fine "lights -1+-1+-1+-1+-1+-1+-1+-1+-1;"
            fine "lights 1-1-1-1-1-1-1-1-1-1;"                      // - of two
            fine "lights twos 1+twos 1+twos 1+twos 1+twos 1+twos 1+twos 1+twos 1+twos 1;"
            fine "lights out 1+out 1+out 1+out 1+out 1+out 1+out 1+out 1+out 1;"
            fine "lights if not 1=1 or not 1=1 or not 1=1 or not 1=1 or not 1=1 or not 1=1 or not 1=1 or not 1=1 or not 1=1 then 1 else 1 end;"
            fine "lights -(((((((1)))))))+-(((((((1)))))));"
            fine "lights ((((((((1))))))))+((((((((1))))))));fails ((((((((1))))))));"
            fault "lights ((((((((1))))))))+(((((((((1)))))))));" = 3 33
            """);
    }

    /** Each kind as the 8th and as the 9th that is open. */
    private void depthOfEachKind() {
        String[] kinds = {"(1)", "-1", "twos 1", "out 1", "if 1=1 then 1 else 1 end"};
        StringBuilder lines = new StringBuilder();
        for (String kind : kinds) {
            lines.append("fine \"lights ").append("(".repeat(7)).append(kind).append(")".repeat(7)).append(";\"\n");
            lines.append("fault \"lights ").append("(".repeat(8)).append(kind).append(")".repeat(8)).append(";\" = 3 15\n");
        }
        // Where an if is the 8th nothing more can be opened in any part of it; behind its end there can.
        String[] parts = {"if (1)=1 then 1 else 1 end", "if 1=-1 then 1 else 1 end", "if not 1=1 then 1 else 1 end",
            "if 1=1 then (1) else 1 end", "if 1=1 then 1 else (1) end"};
        int[] at = {3, 5, 3, 12, 19};
        for (int i = 0; i < parts.length; i++) {
            lines.append("fine \"lights ").append("(".repeat(6)).append(parts[i]).append(")".repeat(6)).append(";\"\n");
            lines.append("fault \"lights ").append("(".repeat(7)).append(parts[i]).append(")".repeat(7)).append(";\" = 3 ").append(14 + at[i]).append('\n');
        }
        lines.append("fine \"lights (((((((if 1=1 then 1 else 1 end+(1))))))));\"\n");
        String ifs = "if 1=1 then ".repeat(8) + "1" + " else 1 end".repeat(8);
        lines.append("fine \"lights ").append(ifs).append(";\"\n");
        lines.append("fault \"lights if 1=1 then ").append(ifs).append(" else 1 end;\" = 3 103\n");
        e.edge("II", "the 9th of ( not twos out if and - (of one ONE)", lines.toString());
    }

    private void faultsOfClauses() {
        String many = "burn;".repeat(23);
        e.edge("II", "4 lights, fails for the second time (at it).", """
            fine "lights 1;fails 1;"
            fault "lights 1;lights 1;" = 4 9
            fault "lights 1; lights" = 4 10
            fault "fails 1;burn;\\nfails 1;" = 4 14
            fault "fails 1;lights 1;fails 1;" = 4 17
            """);
        e.edge("II", "5 a NAME that isn't of that CLAUSE (at it).", """
            fine "lights side;"
            fault "fails side;" = 5 6
            fault "fails 1+twos(2*side);" = 5 15
            fault "fails if 1<side then 1 else 2 end;" = 5 11
            fault "lights side;fails 1-side;" = 5 20
            fine "fails 1;lights side;"
            """);
        e.edge("II", "6 the 25th CLAUSE (at its first TOKEN).", "fine \"" + many + "burn;\"\nfine \"" + many + "lights 1;\"\n"
            + "fault \"" + many + "burn; burn;\" = 6 121\nfault \"" + many + "burn;lights 1;\" = 6 120\nfault \"" + many + "burn;burn\" = 6 120\n"
            + "fine \"" + many + "burn; \"\nfine \"lights 1;fails 1;" + "burn;".repeat(22) + "\"\n"
            + "fault \"lights 1;fails 1;" + "burn;".repeat(23) + "\" = 6 127\n");
    }

    private void rules() {
        e.edge("II", "THE TEXT (told; at first none) rules.", """
            cord(5, 5) = 0
            about(3) = -1
            text "lights 7;fails 3;" = 0
            about(3) = -1
            law(0, false, {true, false}) = 1 0
            by(0) = true
            law(0, false, {true, false}) = 7 3
            by(-1) = true
            law(0, false, {true, false}) = 1 0
            """);
        e.edge("II", "lights: -99 at least, 99 at most; without: 1.", """
            cord(5, 5)
            lights 0 "-98" = -98
            lights 0 "-99" = -99
            lights 0 "-100" = -99
            lights 0 "-9999*9999" = -99
            lights 0 "98" = 98
            lights 0 "99" = 99
            lights 0 "100" = 99
            lights 0 "9999*9999" = 99
            lights 0 "0" = 0
            text "fails 3;" = 0
            by(0) = true
            law(0, {false, true}, true) = 1
            """);
        e.edge("II", "fails (the odds of 10): 0 at least, 10 at most; without: 0.", """
            cord(5, 5)
            fails 0 "1" = 1
            fails 0 "0" = 0
            fails 0 "-1" = 0
            fails 0 "-9999*9999" = 0
            fails 0 "9" = 9
            fails 0 "10" = 10
            fails 0 "11" = 10
            fails 0 "9999*9999" = 10
            text "lights 3;" = 0
            by(0) = true
            law(0, {false, true}, false) = 0
            """);
    }

    private void played() {
        e.edge("II", "PLAYED by a TEXT: its CLAUSES but laws, in their order, as by hand", """
            text "" = 0
            text "lights 0;fails 10;" = 1
            played(0..1) = -1 !
            text "lights 0;cord 2 price 7;hands 3;left 0;right 0;minute 1;renew 0;right 0;snuff 0;right 0;burn;" = 2
            played(2) = -1               // both ends burn it out in the minute; behind renew it burns for two
            about(1) = 3
            of(0, 0..3) = 2 7 0 0
            is(0) = 192
            about(4) = 8
            book(-1, 0) = 7
            book(0..6, 2) = 0 0 3 0 2 0 3
            about(3) = -1                // its own laws don't rule by that
            """);
    }

    private void playedEnds() {
        e.edge("II", "one that can't be ends it (of so many MINUTES those that can pass do): its number among all CLAUSES (from 0); what was done stays.", """
            text "left 0;hands 5;" = 0
            played(0) = 0 !
            text "right 0;hands 5;" = 1
            played(1) = 0 !
            text "snuff 0;hands 5;" = 2
            played(2) = 0 !
            text "renew 0;hands 5;" = 3
            played(3) = 0 !
            new
            text "burn;hands 5;" = 0
            played(0) = 0 !
            cord(5, 5) = 0
            text "hands 5;fails 1;minute 2;lights 1;burn;hands 6;" = 1
            played(1) = 4
            about(1) = 5
            is(0) = 128
            about(4) = 2
            text "cord 1 price 1;cord 2 price 2;cord 3 price 3;cord 4 price 4;" = 2
            played(2) = 3
            about(0) = 4
            played(2) = 0 !
            text "snuff 3;" = 3
            played(3) = 0 !
            new
            """ + EdgesOfTerms.late(9997) + """
            text "fails 1;minute 3;hands 5;" = 1
            text "minute 2;hands 5;" = 2
            image() = 639808
            played(1) = 1                // two of three
            is(0) = 639936
            about(1) = 2
            undo()
            is(0) = 639872
            played(1) = 1                // one of three
            is(0) = 639936
            played(1) = 1 !              // none of three
            back() = 639808
            played(2) = -1
            is(0) = 639936
            about(1) = 5
            """);
    }
}
