import java.util.NoSuchElementException;

/**
 * Tests of boundaries. Each test says which sentence of the document it is of, and each answer on which side of the
 * sentence's boundary it lies; a sentence with two sides must have been tried on both.
 */
final class Edge {
    private static String sentence = "";
    private static boolean twoSides = false;
    private static int nears = 0;
    private static int fars = 0;

    private Edge() {
    }

    /** From here on the answers are of these words, which have a near side and a far side. */
    static void of(String section, String words) {
        begin(section, words, true);
    }

    /** From here on the answers are of these words, which name one case alone. */
    static void ofOne(String section, String words) {
        begin(section, words, false);
    }

    private static void begin(String section, String words, boolean two) {
        close();
        sentence = section + " \"" + words + "\"";
        twoSides = two;
        Check.due("the document has, in " + sentence, Doc.quote(section, words), true);
    }

    static void close() {
        if (!sentence.isEmpty()) {
            Check.due(sentence + ": tried on its near side", nears > 0, true);
            Check.due(sentence + ": tried on its far side", !twoSides || fars > 0, true);
        }
        sentence = "";
        nears = 0;
        fars = 0;
    }

    static void near(String call, long got, long want) {
        nears++;
        Check.due(sentence + ", near side: " + call, got, want);
    }

    static void far(String call, long got, long want) {
        fars++;
        Check.due(sentence + ", far side: " + call, got, want);
    }

    static void near(String call, boolean got, boolean want) {
        near(call, got ? 1 : 0, want ? 1 : 0);
    }

    static void far(String call, boolean got, boolean want) {
        far(call, got ? 1 : 0, want ? 1 : 0);
    }

    /** The answer of a call that isn't refused, and that TROUBLE is 0 behind it. */
    static void taken(WaverTax x, String call, long got, long want) {
        near(call, got, want);
        near(call + ", then trouble()", x.trouble(), 0);
    }

    static void taken(WaverTax x, String call, boolean got) {
        taken(x, call, got ? 1 : 0, 1);
    }

    /** The answer NONE of a refused call, and its TROUBLE. */
    static void refused(WaverTax x, String call, long got, int trouble) {
        refusedBy(x, call, got, WaverTax.NONE, trouble);
    }

    static void refused(WaverTax x, String call, boolean got, int trouble) {
        refusedBy(x, call, got ? 1 : 0, 0, trouble);
    }

    static void refusedLong(WaverTax x, String call, long got, int trouble) {
        refusedBy(x, call, got, Long.MIN_VALUE, trouble);
    }

    static void refusedBy(WaverTax x, String call, long got, long want, int trouble) {
        far(call, got, want);
        far(call + ", then trouble()", x.trouble(), trouble);
    }

    /** A text that is a law for so many people. */
    static WaverTax law(String text, int people) {
        WaverTax x = new WaverTax();
        near("laws of " + text, Check.laws(x, text), people);
        near("fault() of " + text, x.fault(), 0);
        return x;
    }

    /** A text with a fault; a ^ in it stands ahead of the fault's place. */
    static WaverTax fault(String marked, int fault) {
        WaverTax x = new WaverTax();
        fault(x, marked, fault);
        return x;
    }

    static void fault(WaverTax x, String marked, int fault) {
        String text = marked.replace("^", "");
        refused(x, "laws of " + text, Check.laws(x, text), 4);
        far("fault() of " + text, x.fault(), fault);
        far("where() of " + text, x.where(), marked.indexOf('^'));
    }

    static int thrown(WaverTax x, int i) {
        try {
            x.led(i);
            return 0;
        } catch (NoSuchElementException e) {
            return 1;
        }
    }

    /** All that calls tell of how an object stands, its TAPE and TROUBLE left out. */
    static String stand(WaverTax x) {
        StringBuilder all = new StringBuilder();
        for (int what = 0; what <= 12; what++) {
            all.append(x.size(what)).append(' ');
        }
        for (int p = 0; p < x.size(3); p++) {
            for (int what = 0; what <= 5; what++) {
                all.append(x.person(p, what)).append(' ');
            }
            for (int c = 0; c < x.size(2); c++) {
                all.append(x.worth(p, c)).append(' ').append(x.tax(p, c)).append(' ');
            }
        }
        for (int k = 0; k < x.size(5); k++) {
            all.append(x.came(k)).append(' ');
        }
        return all.toString();
    }
}
