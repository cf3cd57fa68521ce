import java.util.ArrayList;
import java.util.List;

/** An object of FuseMinutes with the calls made on it, so that others can be brought to where it is. */
final class Run {
    private static final int MOST_CALLS = 512;
    private final FuseMinutes fuse = new FuseMinutes();
    private final List<Call> calls = new ArrayList<>();
    private int count = 0;

    /** The document says nothing about an object that has been used more often. */
    long make(Call call) {
        count++;
        if (count > MOST_CALLS) throw new IllegalStateException("more than " + MOST_CALLS + " calls: " + call);
        return call.on(fuse);
    }

    long makeAndKeep(Call call) {
        calls.add(call);
        return make(call);
    }

    Run again() {
        Run twin = new Run();
        for (Call call : calls) twin.makeAndKeep(call);
        return twin;
    }

    int length() {
        return calls.size();
    }

    /** What a tape of these bytes takes: all but the reading of it. */
    static List<Call> tape(String text) {
        List<Call> calls = new ArrayList<>();
        calls.add(Call.of("end", 0));
        for (int at = 0; at < text.length(); at += 20) {
            Object[] fours = new Object[5];
            for (int i = 0; i < 5; i++) {
                int four = 0;
                for (int b = at + i * 4; b < at + i * 4 + 4; b++) four = four << 8 | (b < text.length() ? text.charAt(b) & 255 : 0);
                fours[i] = four;
            }
            calls.add(Call.of("feed", fours));
        }
        calls.add(Call.of("end", text.length()));
        return calls;
    }

    /** All that the calls tell of what is now. */
    List<Long> present() {
        List<Long> seen = new ArrayList<>();
        String[] asks = {"about(0..8)", "is(0..3)", "fault(0..1)", "of(0..3, 0..4)", "law(0..3, {false, true}, {false, true})",
            "out(0..3)", "suspects(0..3)", "test()", "bundle({false, true})", "part(0..3)", "whose()", "ledger(0..3)"};
        for (String ask : asks) see(ask, seen);
        long lines = make(Call.of("book", -1, 0));
        seen.add(lines);
        for (int i = 0; i < lines; i++) see("book(" + i + ", 0..3)", seen);
        return seen;
    }

    /** All that can be come to from here: STEPS taken back, THE IMAGE, what the tape has. */
    List<Long> beyond() {
        List<Long> seen = new ArrayList<>();
        for (int i = 0; i <= 30; i++) {
            long left = make(Call.of("undo"));
            seen.add(left);
            if (left < 0) break;
            String[] asks = {"is(0..2)", "book(-1, 0)", "burning()", "of(0..3, 2)"};
            for (String ask : asks) see(ask, seen);
        }
        String[] asks = {"back()", "about(0..8)", "is(0..3)", "of(0..3, 0..4)", "text()", "fault(0..1)", "about(8)"};
        for (String ask : asks) see(ask, seen);
        return seen;
    }

    private void see(String ask, List<Long> seen) {
        for (Call call : Call.all(ask)) seen.add(make(call));
    }
}
