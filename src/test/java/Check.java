import java.nio.charset.StandardCharsets;

/** What the tests share: counting wrong answers, and feeding texts. */
final class Check {
    private static int wrong = 0;
    private static int asked = 0;

    private Check() {
    }

    static void due(String call, long got, long want) {
        asked++;
        if (got != want) {
            wrong++;
            System.out.println(call + " answered " + got + ", due is " + want);
        }
    }

    static void due(String call, boolean got, boolean want) {
        due(call, got ? 1 : 0, want ? 1 : 0);
    }

    /** A call that answered what it does when refused, and the trouble that is due. */
    static void refused(WaverTax x, String call, long got, int trouble) {
        due(call, got, call.startsWith("two") ? -1000 : -1);
        due(call + ", then trouble()", x.trouble(), trouble);
    }

    static void refusedLong(WaverTax x, String call, long got, int trouble) {
        due(call, got, Long.MIN_VALUE);
        due(call + ", then trouble()", x.trouble(), trouble);
    }

    static void refused(WaverTax x, String call, boolean got, int trouble) {
        due(call, got, false);
        due(call + ", then trouble()", x.trouble(), trouble);
    }

    static void feed(WaverTax x, byte[] text) {
        for (int at = 0; at < text.length; at += 20) {
            x.feed(four(text, at), four(text, at + 4), four(text, at + 8), four(text, at + 12), four(text, at + 16));
        }
    }

    private static int four(byte[] text, int at) {
        int bytes = 0;
        for (int i = at; i < at + 4; i++) {
            bytes = bytes << 8 | (i < text.length ? text[i] & 255 : 32);
        }
        return bytes;
    }

    static byte[] bytes(String text) {
        return text.getBytes(StandardCharsets.ISO_8859_1);
    }

    /** Feeds a text to an empty tape and makes it the law. */
    static int laws(WaverTax x, String text) {
        feed(x, bytes(text));
        return x.laws(text.length());
    }

    static WaverTax under(String text) {
        WaverTax x = new WaverTax();
        int people = laws(x, text);
        if (people < 0) {
            due("laws of " + text + " at " + x.where(), -x.fault(), 0);
        }
        return x;
    }

    static void fault(String text, int fault, int where) {
        fault(new WaverTax(), text, fault, where);
    }

    static void fault(WaverTax x, String text, int fault, int where) {
        due("laws of " + text, laws(x, text), -1);
        due("trouble() of " + text, x.trouble(), 4);
        due("fault() of " + text, x.fault(), fault);
        due("where() of " + text, x.where(), where);
    }

    static void end() {
        System.out.println(wrong == 0 ? asked + " answers are as due" : wrong + " answers are not as due");
        if (wrong != 0) {
            System.exit(1);
        }
    }
}
