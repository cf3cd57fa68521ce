import java.util.ArrayList;
import java.util.List;

/**
 * Sentences of the document that name a boundary case, each with runs of calls of its own.
 *
 * A line of a run is one of these, and behind it // and why:
 *   call                  made, whatever it answers
 *   call = answers        made; one answer for each of its calls, or one for all of them
 *   call = answers !      the same, and nothing else may be changed by it
 *   5 x call ..           five times
 *   new                   goes on with a new object
 *   tape "bytes"          they are the tape
 *   text "bytes" = n      they are the tape, and it is read
 *   fine "bytes"          a new object reads them: TEXT 0
 *   fault "bytes" = f p   a new object reads them: FAULT f at place p
 *   lights c "SUM" = n    what lights says of the right end of CORD c, were this the law now
 *   fails c "SUM" = n     what fails says of CORD c, were this the law now
 */
final class Edges {
    private final List<String> places = new ArrayList<>();
    private final List<String> sentences = new ArrayList<>();
    private int wrong = 0;
    private String where = "";
    private Run run = new Run();
    private int seenAt = -1;
    private List<Long> present;
    private List<Long> beyond;

    List<String> places() {
        return places;
    }

    List<String> sentences() {
        return sentences;
    }

    int wrong() {
        return wrong;
    }

    /** The place is a number of a promise, or Terms, II, III, IV, V. */
    void edge(String place, String sentence, String lines) {
        places.add(place);
        sentences.add(sentence);
        where = place + ": '" + sentence + "'";
        begin();
        for (String line : lines.split("\n")) {
            String code = withoutRemark(line).trim();
            if (!code.isEmpty()) line(code);
        }
    }

    void edge(int promise, String sentence, String lines) {
        edge(Integer.toString(promise), sentence, lines);
    }

    private void begin() {
        run = new Run();
        seenAt = -1;
    }

    private static String withoutRemark(String line) {
        boolean quoted = false;
        for (int i = 0; i + 1 < line.length(); i++) {
            if (line.charAt(i) == '"') quoted = !quoted;
            if (!quoted && line.startsWith("//", i)) return line.substring(0, i);
        }
        return line;
    }

    private void line(String code) {
        if (code.equals("new")) {
            begin();
        } else if (code.contains("\"")) {
            quotedLine(code);
        } else if (code.matches("\\d+ x .*")) {
            int times = Integer.parseInt(code.substring(0, code.indexOf(' ')));
            for (int i = 0; i < times; i++) callLine(code.substring(code.indexOf('x') + 2));
        } else {
            callLine(code);
        }
    }

    private void callLine(String code) {
        boolean changesNothing = code.endsWith("!");
        String kept = changesNothing ? code.substring(0, code.length() - 1).trim() : code;
        String[] sides = kept.split("=");
        String[] answers = sides.length > 1 ? sides[1].trim().split("\\s+") : new String[0];
        List<Call> calls = Call.all(sides[0].trim());
        if (answers.length > 1 && answers.length != calls.size()) throw new IllegalArgumentException(where + ": " + code);
        for (int i = 0; i < calls.size(); i++) {
            Call call = calls.get(i);
            if (changesNothing) seeThatNothingChanges(call);
            long got = changesNothing ? run.make(call) : run.makeAndKeep(call);
            if (answers.length > 0) due(call.toString(), got, number(answers[answers.length > 1 ? i : 0]));
        }
    }

    private static long number(String word) {
        return word.equals("true") ? 1 : word.equals("false") ? 0 : Long.parseLong(word);
    }

    private void due(String call, long got, long want) {
        if (got != want) {
            wrong++;
            System.out.println(where + ": " + call + " answered " + got + ", due is " + want);
        }
    }

    /** Two objects are brought here, and one of them is called: both have to tell the same then. */
    private void seeThatNothingChanges(Call call) {
        if (seenAt != run.length()) {
            present = run.again().present();
            beyond = run.again().beyond();
            seenAt = run.length();
        }
        Run called = run.again();
        called.make(call);
        if (!called.present().equals(present)) changed(call, "what is now");
        called = run.again();
        called.make(call);
        if (!called.beyond().equals(beyond)) changed(call, "what can be come to");
    }

    private void changed(Call call, String what) {
        wrong++;
        System.out.println(where + ": " + call + " changed " + what);
    }

    private void quotedLine(String code) {
        int from = code.indexOf('"');
        int to = code.lastIndexOf('"');
        String bytes = unescaped(code.substring(from + 1, to));
        String[] words = code.substring(0, from).trim().split("\\s+");
        String rest = code.substring(to + 1).trim();
        String[] answers = rest.isEmpty() ? new String[0] : rest.substring(1).trim().split("\\s+");
        switch (words[0]) {
            case "tape" -> putTape(run, bytes);
            case "text" -> {
                putTape(run, bytes);
                long got = run.makeAndKeep(Call.of("text"));
                if (answers.length > 0) due(code, got, number(answers[0]));
            }
            case "fine" -> dueFault(bytes, 0, 0, -1);
            case "fault" -> dueFault(bytes, -1, number(answers[0]), number(answers[1]));
            case "lights", "fails" -> dueLaw(words[0], Integer.valueOf(words[1]), bytes, number(answers[0]));
            default -> throw new IllegalArgumentException(where + ": " + code);
        }
    }

    /** \n and \xHH are a byte each. */
    private static String unescaped(String quoted) {
        StringBuilder bytes = new StringBuilder();
        for (int i = 0; i < quoted.length(); i++) {
            if (quoted.charAt(i) != '\\') {
                bytes.append(quoted.charAt(i));
            } else if (quoted.charAt(i + 1) == 'n') {
                bytes.append('\n');
                i++;
            } else {
                bytes.append((char) Integer.parseInt(quoted.substring(i + 2, i + 4), 16));
                i += 3;
            }
        }
        return bytes.toString();
    }

    private static void putTape(Run run, String bytes) {
        for (Call call : Run.tape(bytes)) run.makeAndKeep(call);
    }

    private void dueFault(String bytes, long answer, long fault, long place) {
        Run fresh = new Run();
        putTape(fresh, bytes);
        due("text() of \"" + bytes + "\"", fresh.make(Call.of("text")), answer);
        due("fault(0) of \"" + bytes + "\"", fresh.make(Call.of("fault", 0)), fault);
        due("fault(1) of \"" + bytes + "\"", fresh.make(Call.of("fault", 1)), place);
    }

    private void dueLaw(String law, int cord, String sum, long want) {
        Run twin = run.again();
        putTape(twin, law + " " + sum + ";");
        long text = twin.make(Call.of("text"));
        twin.make(Call.of("by", (int) text));
        boolean lights = law.equals("lights");
        due(law + " " + sum + " of " + cord, twin.make(Call.of("law", cord, lights, lights)), text < 0 ? Long.MIN_VALUE : want);
    }
}
