/** Promises 4 to 8, 14, 18, 41 and 42: the tape, TEXTS and their FAULTS, laws, playing. */
public final class FuseMinutesTexts {
    private static final Dues D = new Dues();
    private static final int BIG = Integer.MAX_VALUE;
    private static final int LOW = Integer.MIN_VALUE;

    public static void main(String[] args) {
        feed();
        end();
        text();
        fault();
        faults();
        faultsOfNumbers();
        faultsOfDepth();
        faultsOfClauses();
        by();
        played();
        playedEnds();
        law();
        values();
        outOfFirst();
        asks();
        saidAndWhose();
        D.end();
    }

    private static void feed() {
        D.promise(4);
        FuseMinutes x = new FuseMinutes();
        D.due("feed: burn;burn;burn;burn;", x.feed(0x6275726e, 0x3b627572, 0x6e3b6275, 0x726e3b62, 0x75726e3b), 20);
        D.due("the highest byte first", x.text(), 0);
        for (int i = 1; i <= 15; i++) D.due("feed", x.feed(0x20202020, 0x20202020, 0x20202020, 0x20202020, 0x20202020), i * 20);
        D.due("feed beyond 300", x.feed(0, 0, 0, 0, 0), -1);
        D.due("about(8)", x.about(8), 300);
        D.due("300 blanks are a TEXT", x.text(), 1);
        for (int i = 1; i <= 14; i++) x.feed(0x20202020, 0x20202020, 0x20202020, 0x20202020, 0x20202020);
        x.feed(0x20202020, 0x20202020, 0x20202020, 0x20202020, -1);
        D.due("end(298)", x.end(298), 298);
        D.due("feed with 298", x.feed(0, 0, 0, 0, 0), -1);
        D.due("about(8)", x.about(8), 298);
        D.due("a byte of 255", x.text() * 1000 + x.fault(1), -1000 + 296);
        x.feed(-1, -1, -1, -1, -1);
        D.due("about(8)", x.about(8), 20);
    }

    private static void end() {
        D.promise(5);
        FuseMinutes x = new FuseMinutes();
        D.due("end(0)", x.end(0), 0);
        D.due("end(1)", x.end(1), -1);
        x.feed(1, 2, 3, 4, 5);
        for (int n : new int[] {21, -1, BIG, LOW}) D.due("end(" + n + ")", x.end(n), -1);
        D.due("about(8)", x.about(8), 20);
        D.due("end(20)", x.end(20), 20);
        D.due("end(3)", x.end(3), 3);
        D.due("about(8)", x.about(8), 3);
        D.due("end(4)", x.end(4), -1);
    }

    private static void text() {
        D.promise(6);
        FuseMinutes x = new FuseMinutes();
        D.due("an empty TEXT", x.text(), 0);
        D.due("a TEXT", Dues.text(x, "lights 1;fails 2;"), 1);
        D.due("the tape is empty then", x.about(8), 0);
        D.due("a FAULT", Dues.text(x, "lights;"), -1);
        D.due("the tape is empty then", x.about(8), 0);
        D.due("about(2)", x.about(2), 2);
        D.due("blanks", Dues.text(x, "\n burn\n;  minute 3\n\n; "), 2);
        D.due("no blanks", Dues.text(x, "cord1price2;minute3;left0;lights rest+1<1"), -1);
        D.due("no blanks", Dues.text(x, "cord1price2;minute3;left0;lights(rest)+1;"), 3);
        FuseMinutes y = Dues.with(3);
        Dues.text(y, "lights 7; fails 5; $");
        D.due("behind a FAULT", Dues.text(y, "burn;"), 0);
        y.by(0);
        D.due("nothing is left of it", y.law(0, false, true) * 10 + y.law(0, false, false), 10);
        Dues.tape(x, "burn$");
        D.due("the 5th", x.text(), -1);
        D.due("the tape stays", x.about(8), 5);
        D.due("it wasn't read", x.fault(0), 0);
        D.due("about(2)", x.about(2), 4);
    }

    private static void fault() {
        D.promise(7);
        FuseMinutes x = new FuseMinutes();
        D.due("fault(0)", x.fault(0), -1);
        D.due("fault(1)", x.fault(1), -1);
        Dues.text(x, "burn;");
        D.due("fault(0)", x.fault(0), 0);
        D.due("fault(1)", x.fault(1), -1);
        Dues.text(x, "burn; burn;;");
        D.due("fault(0)", x.fault(0), 1);
        D.due("fault(1)", x.fault(1), 11);
        for (int what : new int[] {-1, 2, BIG, LOW}) D.due("fault(" + what + ")", x.fault(what), -1);
        Dues.text(x, "burn;");
        D.due("of the latest", x.fault(0), 0);
        D.due("of the latest", x.fault(1), -1);
    }

    /** A FAULT of 0 is none. */
    private static void read(String text, int fault, int place) {
        D.promise(7);
        FuseMinutes x = new FuseMinutes();
        D.due("text: " + text, Dues.text(x, text), fault == 0 ? 0 : -1);
        D.due("fault(0) of " + text, x.fault(0), fault);
        D.due("fault(1) of " + text, x.fault(1), place);
    }

    private static void fine(String text) {
        read(text, 0, -1);
    }

    private static void faults() {
        fine("");
        fine("  \n ");
        read("$", 1, 0);
        read("\tburn;", 1, 0);
        read("burn;" + (char) 233, 1, 5);
        read("burn;" + (char) 0, 1, 5);
        read("burn; \r", 1, 6);
        read("Burn;", 1, 0);
        read("burns;", 1, 0);
        read("bur;", 1, 0);
        read("burnz;", 1, 0);
        read("burnZ;", 1, 0);
        read("zburn;", 1, 0);
        read("Aburn;", 1, 0);
        read("burnA;", 1, 0);
        read("burn;Z", 1, 5);
        read("lights 1Z;", 1, 8);
        read("lights 1{;", 1, 8);
        read("bu rn;", 1, 0);
        read(";", 1, 0);
        read("7;", 1, 0);
        read("price 3;", 1, 0);
        read("if;", 1, 0);
        read("end;", 1, 0);
        read("side;", 1, 0);
        read("burn  ", 1, 6);
        read("lights", 1, 6);
        read("lights ;", 1, 7);
        read("lights 1", 1, 8);
        read("lights 1 2;", 1, 9);
        read("lights (1;", 1, 9);
        read("lights 1);", 1, 8);
        read("lights ();", 1, 8);
        read("lights 1+;", 1, 9);
        read("lights +1;", 1, 7);
        read("lights 1*/2;", 1, 9);
        read("lights 1 < 2;", 1, 9);
        read("lights hands;", 1, 7);
        read("lights Time;", 1, 7);
        read("lights not 1;", 1, 7);
        read("lights then;", 1, 7);
        read("lights if 1 then 2 else 3 end;", 1, 12);
        read("lights if 1<2 else 3 end;", 1, 14);
        read("lights if 1<2 then 3 end;", 1, 21);
        read("lights if 1<2 then 3 else 4;", 1, 27);
        read("lights if 1<2<3 then 3 else 4 end;", 1, 13);
        read("lights if (1<2) then 3 else 4 end;", 1, 12);
        read("lights if 1< =2 then 3 else 4 end;", 1, 13);
        read("lights if 1=<2 then 3 else 4 end;", 1, 12);
        read("lights if 1<not 2=3 then 3 else 4 end;", 1, 12);
        read("lights if 1=1 or then 3 else 4 end;", 1, 17);
        read("lights if not then 3 else 4 end;", 1, 14);
        fine("lights if 1=1 or 2<=3 and not 4>=5 then 3 else 4 end;");
        fine("lights if not not if 1#2 then 3 else 4 end < 3 then (2) else - - 4 end*2/3-1;");
        fine("lights time+cord+rest+long+price+lit+side; fails time+cord+rest+long+price+lit;");
        read("fails time+side;", 5, 11);
        read("fails 1; lights side; fails side;", 4, 22);
        read("lights side; fails (1+side);", 5, 22);
        fine("fails 1; lights side;");
        read("cord;", 1, 4);
        read("cord 1;", 1, 6);
        read("cord 1 price;", 1, 12);
        read("cord 1 cord 2;", 1, 7);
        read("cord (1) price 2;", 1, 5);
        read("hands -1;", 1, 6);
        read("hands;", 1, 5);
        read("left;", 1, 4);
        read("snuff time;", 1, 6);
        read("burn 1;", 1, 5);
        read("minute 1", 1, 8);
    }

    private static void faultsOfNumbers() {
        fine("lights 9999;");
        read("lights 10000;", 2, 7);
        read("lights 1+99999999999999999999;", 2, 9);
        fine("lights 000000000000009999;");
        read("lights 1 10000;", 1, 9);
        read("10000;", 1, 0);
        fine("cord 60 price 99; cord 1 price 0;");
        read("cord 0 price 1;", 2, 5);
        read("cord 61 price 100;", 2, 5);
        read("cord 60 price 100;", 2, 14);
        fine("hands 1; hands 8;");
        read("hands 0;", 2, 6);
        read("hands 9;", 2, 6);
        fine("minute 1; minute 60; left 3; right 0; snuff 3; renew 003;");
        read("minute 0;", 2, 7);
        read("minute 61;", 2, 7);
        read("minute 4294967297;", 2, 7);
        for (String word : new String[] {"left", "right", "snuff", "renew"}) read(word + " 4;", 2, word.length() + 1);
    }

    private static void faultsOfDepth() {
        fine("lights ((((((((1))))))));");
        read("lights (((((((((1)))))))));", 3, 15);
        fine("lights --------1;");
        read("lights ---------1;", 3, 15);
        fine("lights 1--------1----1;");
        read("lights 1----------1;", 3, 17);
        fine("lights (-twos out(-(-1)))+(-twos out(-(-1)));");
        read("lights (-twos out(-(-(-1))));", 3, 21);
        fine("lights twos twos twos twos twos twos twos if 1=1 then 2 else 3 end;");
        read("lights twos twos twos twos twos twos twos if(1)=1 then 2 else 3 end;", 3, 44);
        read("lights twos twos twos twos twos twos twos if not 1=1 then 2 else 3 end;", 3, 45);
        read("lights twos twos twos twos twos twos twos if 1=1 then -2 else 3 end;", 3, 54);
        read("lights twos twos twos twos twos twos twos if 1=1 then 2 else out 3 end;", 3, 61);
        read("lights twos twos twos twos twos twos twos twos if 1=1 then 2 else out 3 end;", 3, 47);
        read("lights twos twos twos twos twos twos twos twos not 1;", 1, 47);
        read("lights twos twos twos twos twos twos twos twos 10000;", 2, 47);
        fine("lights if not not not not not not not 1=1 then (1) else (((((((1))))))) end;");
        read("lights if not not not not not not not not 1=1 then 1 else 1 end;", 3, 38);
        fine("lights (1)+(2)+(3)+(4)+(5)+(6)+(7)+(8)+(9)+(10);");
    }

    private static void faultsOfClauses() {
        read("lights 1;lights 2;", 4, 9);
        read("fails 1;burn;fails", 4, 13);
        fine("fails 1;lights 1;");
        String many = "burn;".repeat(23);
        fine(many + "burn;");
        fine(many + "fails 1; ");
        read(many + "burn; burn;", 6, 121);
        read(many + "burn; $", 1, 121);
        read(many + "burn; price", 1, 121);
        read(many + "burn; fails $", 6, 121);
        read(many + "fails 1; fails 2;", 4, 124);
        read(many + "fails 1; lights 2;", 6, 124);
    }

    private static void by() {
        D.promise(8);
        FuseMinutes x = Dues.with(5);
        Dues.text(x, "fails 3;");
        Dues.text(x, "fails 4;");
        D.due("told, but not yet by", x.law(0, false, false), 0);
        for (int text : new int[] {2, -2, 4, BIG, LOW}) D.due("by(" + text + ")", x.by(text), false);
        D.due("by(1)", x.by(1), true);
        D.due("about(3)", x.about(3), 1);
        D.due("by its fails", x.law(0, false, false), 4);
        D.due("by(2)", x.by(2), false);
        D.due("it stays", x.about(3), 1);
        D.due("by(-1)", x.by(-1), true);
        D.due("about(3)", x.about(3), -1);
        D.due("by none", x.law(0, false, false), 0);
    }

    private static void played() {
        D.promise(14);
        FuseMinutes x = new FuseMinutes();
        for (int text : new int[] {-1, 0, 4, BIG, LOW}) D.due("played(" + text + ")", x.played(text), -2);
        Dues.text(x, "lights 0; cord 3 price 7; hands 3; left 0; right 0; minute 1; snuff 0; snuff 0; renew 0; right 0; burn;");
        D.due("played(0)", x.played(0), -1);
        D.due("its own law doesn't rule", x.about(3), -1);
        D.due("of(0, 1)", x.of(0, 1), 7);
        D.due("about(1)", x.about(1), 3);
        D.due("is(0)", x.is(0), 64 + 192);
        D.due("about(4)", x.about(4), 8);
        D.due("the left end was snuffed first", x.book(2, 3), 0);
        D.due("then the right one", x.book(3, 3), 1);
        D.due("book(-1, 0)", x.book(-1, 0), 6);
        D.due("an empty one", x.played(x.text()), -1);
        x.by(0);
        D.due("lights 0 rules now: left 0 can't be", x.played(0), 3);
        D.due("what was done stays", x.about(0), 2);
        FuseMinutes y = new FuseMinutes();
        Dues.text(y, "fails 10; cord 3 price 7; left 0; burn; hands 7;");
        y.by(0);
        D.due("a fizzle goes on, burn can't be", y.played(0), 3);
        D.due("ledger(1)", y.ledger(1), 1);
        D.due("about(1)", y.about(1), 2);
    }

    private static void playedEnds() {
        D.promise(14);
        String[] texts = {"snuff 0;", "snuff 3;", "renew 0;", "renew 3;", "left 3;", "right 1;", "burn;"};
        for (String t : texts) {
            FuseMinutes x = Dues.with(2);
            Dues.text(x, "minute 1;fails 1;" + t + "minute 1;");
            D.due("played: " + t, x.played(0), 2);
            D.due("is(0)", x.is(0), 64);
        }
        FuseMinutes x = new FuseMinutes();
        Dues.text(x, "cord 1 price 1;cord 2 price 1;cord 3 price 1;cord 4 price 1;cord 5 price 1;");
        D.due("the 5th CORD", x.played(0), 4);
        x = Dues.with(2);
        Dues.text(x, "left 0;right 0;hands 3;left 0;");
        D.due("it burns", x.played(0), 3);
    }

    private static void law() {
        D.promise(18);
        FuseMinutes x = Dues.with(5, 7);
        D.due("lights without", x.law(0, false, true), 1);
        D.due("fails without", x.law(1, true, false), 0);
        for (int cord : new int[] {-1, 2, 4, BIG, LOW}) D.due("law(" + cord + ")", x.law(cord, false, true), -100);
        D.due("law(2, .., false)", x.law(2, false, false), -100);
        x = Dues.ruled("lights 100; ", 5);
        D.due("99 at most", x.law(0, false, true), 99);
        D.due("fails without", x.law(0, false, false), 0);
        x = Dues.ruled("fails 11;", 5);
        D.due("10 at most", x.law(0, false, false), 10);
        D.due("lights without", x.law(0, false, true), 1);
        x = Dues.ruled("fails -1;lights -100;", 5);
        D.due("0 at least", x.law(0, false, false), 0);
        D.due("-99 at least", x.law(0, false, true), -99);
        x = Dues.ruled("fails 9;lights side*50+7;", 5);
        D.due("left", x.law(0, false, true), 7);
        D.due("right", x.law(0, true, true), 57);
        D.due("fails", x.law(0, true, false), 9);
        x = Dues.ruled("lights 5+time*10+lit;", 5);
        D.due("now", x.law(0, false, true), 5);
        x.light(0, false);
        x.minute(1);
        D.due("now", x.law(0, false, true), 16);
    }

    private static void value(String sum, long want) {
        FuseMinutes x = new FuseMinutes();
        x.cord(5, 20);
        x.cord(9, 12);
        x.cord(1, 3);
        Dues.text(x, "lights " + sum + ";");
        x.hands(8);
        x.light(1, false);
        x.light(1, true);
        x.light(2, true);
        x.minute(2);
        x.light(0, false);
        x.shifts(5, 1);
        x.by(0);
        // Now 4 MINUTES passed; CORD 0 has 3 and burns, CORD 1 has 1 and burns twice, CORD 2 is out.
        D.due("lights " + sum, x.law(0, true, true), want);
    }

    private static void values() {
        D.promise(18);
        value("time", 4);
        value("cord", 0);
        value("rest", 3);
        value("long", 5);
        value("price", 20);
        value("lit", 3);
        value("side", 1);
        value("out 2", 1);
        value("out 0", 0);
        value("out 3", 0);
        value("out -1", 0);
        value("out 9999", 0);
        value("out(1+1)*7", 7);
        value("out 1+1", 1);
        value("1+2*3", 7);
        value("(1+2)*3", 9);
        value("9-3-2", 4);
        value("40/4/5", 2);
        value("7/2*2", 6);
        value("-7/2", -3);
        value("7/-2", -3);
        value("7/0", 0);
        value("7/(1-1)+5", 5);
        value("2--3", 5);
        value("-2*3", -6);
        value("twos 12", 4);
        value("twos -12", 4);
        value("twos 7", 1);
        value("twos 0", 0);
        value("twos 64", 64);
        value("twos 4*3", 12);
        value("twos(4*3)", 4);
        value("9999*9999/5000/4", 50);
        value("9999*9999-9999*9999", 0);
        value("9999*9999+1-9999*100-100", 0);
        value("9999*9999-9999*100", 99);
        value("-9999*9999/5000/4", -50);
        value("0-9999*999-9999*999+9999*100+50", -50);
        value("(9999*9999+9999)/5000/4", 50);
        value("9999*9999*9999*9999/5000/20", 10);
        value("rest*long-price/lit", 9);
    }

    private static void asks() {
        D.promise(18);
        String[] signs = {"<", "<=", ">", ">=", "=", "#"};
        int[][] due = {{1, 0, 0}, {1, 1, 0}, {0, 0, 1}, {0, 1, 1}, {0, 1, 0}, {1, 0, 1}};
        for (int s = 0; s < 6; s++) {
            for (int a = 1; a <= 3; a++) value("if " + a + signs[s] + "2 then 1 else 0 end", due[s][a - 1]);
        }
        value("if 1=1 or 1=1 and 1=2 then 5 else 6 end", 5);
        value("if 1=2 and 1=1 or 1=1 then 5 else 6 end", 5);
        value("if 1=2 or 1=1 and 1=2 then 5 else 6 end", 6);
        value("if 1=2 or 1=2 or 3=3 then 5 else 6 end", 5);
        value("if 1=1 and 2=2 and 3=4 then 5 else 6 end", 6);
        value("if 1=1 and 2=2 then 5 else 6 end", 5);
        value("if 1=2 and 2=2 then 5 else 6 end", 6);
        value("if 1=2 and 2=3 then 5 else 6 end", 6);
        value("if not 1=2 then 5 else 6 end", 5);
        value("if not 1=2 and 1=2 then 5 else 6 end", 6);
        value("if not 1=1 or 1=1 then 5 else 6 end", 5);
        value("if not not 1=1 then 5 else 6 end", 5);
        value("if 1+1=2 then 5 else 6 end*2", 10);
        value("if out 2=1 then if rest>3 then 1 else 2 end else 3 end", 2);
        value("1+if 1=2 then 7/0 else 8 end", 9);
    }

    private static void outOfFirst() {
        D.promise(18);
        FuseMinutes x = Dues.ruled("lights 1+out 0*8+out 1*20;", 1, 2);
        D.due("none is out", x.law(1, false, true), 1);
        x.light(0, false);
        x.minute(1);
        D.due("CORD 0 is out", x.law(1, false, true), 9);
        x.light(1, false);
        x.burn();
        D.due("both are", x.law(0, false, true), 29);
    }

    private static void saidAndWhose() {
        D.promise(41);
        FuseMinutes x = Dues.with(5, 9);
        int[][] others = {{2, 1}, {-2, 1}, {0, -1}, {0, 11}, {BIG, 1}, {LOW, 1}, {0, BIG}, {0, LOW}};
        for (int[] o : others) D.due("said(" + o[0] + ", " + o[1] + ")", x.said(o[0], o[1]), -2);
        for (int i = 1; i <= 8; i++) D.due("said(0, 10)", x.said(i % 2, 10), i);
        D.due("the 9th", x.said(0, 10), -2);
        D.due("said(-1, 99)", x.said(-1, 99), 0);
        D.due("said(1, 0)", x.said(1, 0), 1);
        x.said(-1, 0);

        D.promise(42);
        D.due("no TEXTS", x.whose(), 0);
        Dues.text(x, "fails rest-2;");
        Dues.text(x, "lights 3;");
        Dues.text(x, "fails 3+cord*4;");
        Dues.text(x, "fails 3+time*9;");
        D.due("nothing SAID", x.whose(), 15);
        x.said(0, 3);
        D.due("said(0, 3)", x.whose(), 1 + 4 + 8);
        x.said(1, 7);
        D.due("said(1, 7)", x.whose(), 1 + 4);
        x.light(0, false);
        x.minute(1);
        D.due("as now", x.whose(), 4);
        x.said(0, 0);
        D.due("said(0, 0), too", x.whose(), 0);
        x.said(-1, 0);
        x.said(0, 0);
        D.due("a TEXT without fails", x.whose(), 2);
        x.said(-1, 0);
        x.said(1, 10);
        D.due("10 at most", x.whose(), 8);
        x = Dues.with(5, 9);
        Dues.text(x, "fails 9-cord*9;");
        x.said(1, 0);
        D.due("said(1, 0)", x.whose(), 1);
        x.said(0, 9);
        D.due("said(0, 9)", x.whose(), 1);
    }
}
