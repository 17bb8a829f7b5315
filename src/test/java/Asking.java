import java.util.function.Consumer;

/** What the tests by hand share: answers that are due, texts put on the tape, a sentence with a new object. */
abstract class Asking {
    static final int NONE = FourPalms.NONE;
    static final int LEAST = Integer.MIN_VALUE;
    static final int MOST = Integer.MAX_VALUE;

    private static int wrong = 0;
    private static int asked = 0;
    private static int edges = 0;
    private static String sentence = "";

    /** A sentence of the document that names a boundary, and what must hold for it on a new object. */
    static void edge(String told, Consumer<FourPalms> test) {
        edges++;
        sentence = told;
        test.accept(new FourPalms());
        sentence = "";
    }

    static void due(String what, int got, int want) {
        asked++;
        if (got != want) {
            wrong++;
            System.out.println((sentence.isEmpty() ? "" : "\"" + sentence + "\": ") + what + " answered " + got
                + ", due is " + want);
        }
    }

    static void due(String what, boolean got, boolean want) {
        due(what, got ? 1 : 0, want ? 1 : 0);
    }

    /** Puts a text behind the tape and ends the tape there. */
    static void tape(FourPalms x, String text) {
        int before = x.feed(0, 0, 0, 0, 0) - 20;
        x.end(before);
        for (int at = 0; at < text.length(); at += 20) {
            int[] five = new int[5];
            for (int i = 0; i < 20; i++) {
                int sign = at + i < text.length() ? text.charAt(at + i) : ' ';
                five[i / 4] = five[i / 4] << 8 | sign;
            }
            x.feed(five[0], five[1], five[2], five[3], five[4]);
        }
        x.end(before + text.length());
    }

    static int told(FourPalms x, int k, String text) {
        tape(x, text);
        return x.rule(k);
    }

    /** How many bytes the tape has; it stays as it is. */
    static int taped(FourPalms x) {
        int behind = x.feed(0, 0, 0, 0, 0);
        if (behind == NONE) {
            int most = 400;
            while (!x.end(most)) {
                most--;
            }
            return most;
        }
        x.end(behind - 20);
        return behind - 20;
    }

    /** The text is a rule of so many lines. */
    static void fine(String text, int lines) {
        FourPalms x = new FourPalms();
        told(x, 3, "go ?");
        due("rule of " + text, told(x, 3, text), lines);
        due("fault of " + text, x.fault(0), 0);
        due("place in " + text, x.fault(1), NONE);
        due("lines of " + text, x.look(0), lines);
        due("tape behind " + text, taped(x), 0);
    }

    /** The text has a fault at a place: the rule stays as it was, and the tape is empty. */
    static void fault(String text, int fault, int place) {
        FourPalms x = new FourPalms();
        told(x, 0, "go; wait; go;");
        due("rule of " + text, told(x, 0, text), NONE);
        due("fault of " + text, x.fault(0), fault);
        due("place in " + text, x.fault(1), place);
        due("the rule behind " + text, x.look(0), 3);
        due("tape behind " + text, taped(x), 0);
    }

    /** Prints how it went; a wrong answer ends the test with exit code 1. */
    static void close() {
        System.out.println((edges > 0 ? edges + " edges, " : "") + asked + " answers, " + wrong + " of them wrong");
        if (wrong != 0) {
            System.exit(1);
        }
    }
}
