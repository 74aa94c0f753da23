import java.util.ArrayList;
import java.util.List;

/** What the tests share: one object of AcTerms, texts in and out of it, and the count of wrong answers. */
final class Run {
    private static int asked = 0;
    private static int wrong = 0;
    /** The words of the document that the answers test, and how many were asked ahead of them. */
    private static String sentence = "";
    private static int askedAhead = 0;

    final AcTerms terms = new AcTerms();

    static void due(String what, long got, long want) {
        asked++;
        if (got != want) {
            wrong++;
            System.out.println(shown(what) + " answered " + got + ", due is " + want);
        }
    }

    static void due(String what, String got, String want) {
        asked++;
        if (!got.equals(want)) {
            wrong++;
            System.out.println(shown(what) + " answered \"" + got + "\", due is \"" + want + "\"");
        }
    }

    private static String shown(String what) {
        return sentence.isEmpty() ? what : "[" + sentence + "] " + what;
    }

    /** Names the words of the document that the answers from here on test; those named before must have had some. */
    static void sentence(String words) {
        if (!sentence.isEmpty() && asked == askedAhead) {
            due("answers asked", 0, 1);
        }
        sentence = words;
        askedAhead = asked;
    }

    /** A new object whose SLOTS from 0 on have these TERMS. */
    static Run with(String... texts) {
        Run run = new Run();
        for (int slot = 0; slot < texts.length; slot++) {
            due("read of " + texts[slot], run.read(texts[slot], slot) > 0 ? 1 : 0, 1);
        }
        return run;
    }

    static void end() {
        sentence("");
        System.out.println(asked + " answers, " + wrong + " of them wrong");
        if (wrong != 0 || asked == 0) {
            System.exit(1);
        }
    }

    /** Types a text, eight bytes a call; the last call's answer. */
    int typed(String text) {
        int answer = 0;
        for (int from = 0; from < text.length(); from += 8) {
            String piece = text.substring(from, Math.min(from + 8, text.length()));
            answer = terms.type(packed(piece), piece.length());
        }
        return answer;
    }

    static long packed(String piece) {
        long w = 0;
        for (int i = 0; i < piece.length(); i++) {
            w = w << 8 | piece.charAt(i) & 255;
        }
        return w;
    }

    int read(String text, int slot) {
        typed(text);
        return terms.read(slot);
    }

    String out() {
        StringBuilder text = new StringBuilder();
        int next = terms.out(0);
        while (next != AcTerms.NONE) {
            text.append((char) next);
            next = terms.out(text.length());
        }
        return text.toString();
    }

    /** A SLOT's TERM as it is PRINTED, or the refusal. */
    String printed(int slot) {
        int bytes = terms.print(slot);
        if (bytes < 0) {
            return String.valueOf(bytes);
        }
        String text = out();
        due("print's bytes of " + text, bytes, text.length());
        return text;
    }

    /** All MATCHERS as VARIABLE=TERM, by way of a SLOT. */
    List<String> matchers(int count, String variables, int slot) {
        List<String> all = new ArrayList<>();
        for (int i = 0; i < count; i++) {
            StringBuilder row = new StringBuilder();
            for (char c : variables.toCharArray()) {
                int nodes = terms.matched(i, "uvwxyzABCDEFGHIJKLMNOP".indexOf(c), slot);
                due("told's NODES of matched()", terms.told(slot, 3), nodes);
                row.append(row.length() == 0 ? "" : " ").append(c).append('=').append(printed(slot));
            }
            all.add(row.toString());
        }
        return all;
    }
}
