import java.util.HashSet;
import java.util.Set;

/** What the tests share: counting answers that are not due, and small arrangements of parts. */
abstract class Answers {
    /** No object with fewer than 99 parts or ports knows these. */
    static final int[] WRONG_NUMBERS = {0, -1, 99, Integer.MIN_VALUE, Integer.MAX_VALUE};
    private static String sentence = "";
    private static final Set<String> SENTENCES = new HashSet<>();
    private static int wrong = 0;

    /** Begins the test of one sentence of the document; its faults are told under it. */
    static void says(String text) {
        sentence = text;
        SENTENCES.add(text);
    }

    static void fault(String what) {
        wrong++;
        System.out.println(sentence.isEmpty() ? what : "[" + sentence + "] " + what);
    }

    static void due(String what, long want, long got) {
        if (got != want) {
            fault(what + " answered " + got + ", due is " + want);
        }
    }

    static void dueThrow(String what, PortRules x, int i, int which) {
        try {
            fault(what + " answered " + x.at(i, which) + ", due is IndexOutOfBoundsException");
        } catch (IndexOutOfBoundsException e) {
            if (e.getClass() != IndexOutOfBoundsException.class) {
                fault(what + " threw " + e.getClass());
            }
        }
    }

    static void end() {
        String tested = SENTENCES.isEmpty() ? "" : SENTENCES.size() + " sentences: ";
        System.out.println(tested + (wrong == 0 ? "all answers are as due" : wrong + " answers are not as due"));
        if (wrong != 0) {
            System.exit(1);
        }
    }

    /** Parts 1 to n on top. */
    static PortRules withParts(int n) {
        PortRules x = new PortRules();
        for (int i = 0; i < n; i++) {
            x.part(0);
        }
        return x;
    }

    /** Two parts on top; port 1 (provided, of part 1) leads to port 2 (required, of part 2). */
    static PortRules pair(int kind) {
        PortRules x = withParts(2);
        x.port(1, kind, true);
        x.port(2, kind, false);
        x.connect(1, 2);
        return x;
    }

    /** Port 1 of part 2, port 2 of part 1 round it, port 3 of part 3, port 4 of part 4 in it; no connectors. */
    static PortRules outAcrossIn(int kind) {
        PortRules x = new PortRules();
        x.part(0);
        x.part(1);
        x.part(0);
        x.part(3);
        x.port(2, kind, true);
        x.port(1, kind, true);
        x.port(3, kind, false);
        x.port(4, kind, false);
        return x;
    }

    /** As outAcrossIn, with the row of connectors from port 1 to port 4. */
    static PortRules row(int kind) {
        PortRules x = outAcrossIn(kind);
        x.connect(1, 2);
        x.connect(2, 3);
        x.connect(3, 4);
        return x;
    }
}
