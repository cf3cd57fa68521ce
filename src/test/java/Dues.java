/** What is due, counted and printed where it isn't answered. */
final class Dues {
    private int wrong = 0;
    private int promise = 0;

    void promise(int number) {
        promise = number;
    }

    void due(String call, long got, long want) {
        if (got != want) {
            wrong++;
            System.out.println("promise " + promise + ": " + call + " answered " + got + ", due is " + want);
        }
    }

    void due(String call, boolean got, boolean want) {
        due(call, got ? 1 : 0, want ? 1 : 0);
    }

    void end() {
        System.out.println(wrong == 0 ? "all answers are as due" : wrong + " answers are not as due");
        if (wrong != 0) System.exit(1);
    }

    /** Puts a text on the empty tape, to the byte. */
    static void tape(FuseMinutes x, String text) {
        x.end(0);
        int[] fours = new int[(text.length() + 19) / 20 * 5];
        for (int i = 0; i < text.length(); i++) fours[i / 4] |= (text.charAt(i) & 255) << (24 - i % 4 * 8);
        for (int i = 0; i < fours.length; i += 5) x.feed(fours[i], fours[i + 1], fours[i + 2], fours[i + 3], fours[i + 4]);
        x.end(text.length());
    }

    static int text(FuseMinutes x, String text) {
        tape(x, text);
        return x.text();
    }

    /** A new object with CORDS of so many MINUTES, of PRICE 1, 2, .. */
    static FuseMinutes with(int... minutes) {
        FuseMinutes x = new FuseMinutes();
        for (int i = 0; i < minutes.length; i++) x.cord(minutes[i], i + 1);
        return x;
    }

    /** A new object with these CORDS that is ruled by a text. */
    static FuseMinutes ruled(String text, int... minutes) {
        FuseMinutes x = with(minutes);
        x.by(text(x, text));
        return x;
    }
}
