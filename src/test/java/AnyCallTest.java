import java.util.NoSuchElementException;
import java.util.Random;

/** Any calls in any order with any numbers and texts: nothing is thrown but what led() throws. */
public final class AnyCallTest {
    private static final String[] PIECES = {"tax", "root", "third", "choice", "far", "by", "person", "plain", "mad",
        "child", "proud", "holds", "likes", "worth", "reason", "at", "odds", "more", "paid", "hour", "shop", "crowd",
        "lane", "a", "b", "c", "p", "q", "s", "u", ";", ";", ";", "0", "1", "2", "5", "12", "100", "999", "1000",
        "abcdefghi", "A", "\t", "\u00e1"};
    private static final String WHOLE = "tax root 3 third 2;choice a;choice b;choice c;far a b by 4;person p plain holds a;"
        + "person q proud holds b;likes p b worth 9;likes q a worth 30;reason p c at 2 odds 50 more 9;"
        + "reason q c at 1 odds 60 more 50;paid p 4 hour 1;paid p 4 hour 2;shop s crowd 5;shop u crowd 9;lane s u";

    private final Random random;
    private final WaverTax x = new WaverTax();

    private AnyCallTest(Random random) {
        this.random = random;
    }

    public static void main(String[] args) {
        for (int run = 0; run < 600; run++) {
            AnyCallTest any = new AnyCallTest(new Random(run));
            String last = "new";
            try {
                for (int call = 0; call < 400; call++) {
                    any.tell();
                    any.call();
                }
                last = "ended";
            } catch (RuntimeException e) {
                last = "threw " + e;
                e.printStackTrace(System.out);
            }
            Check.due("run " + run + " " + last, last.equals("ended"), true);
        }
        Check.end();
    }

    private void tell() {
        int how = random.nextInt(40);
        if (how == 0) {
            Check.laws(x, WHOLE);
        } else if (how == 1) {
            StringBuilder text = new StringBuilder(random.nextBoolean() ? WHOLE : "tax root 1 third 1;choice a");
            for (int i = random.nextInt(30); i >= 0; i--) {
                int at = random.nextInt(text.length() + 1);
                text.insert(at, " " + PIECES[random.nextInt(PIECES.length)] + " ");
            }
            Check.laws(x, text.length() > 900 ? text.substring(0, 900) : text.toString());
        } else if (how == 2) {
            // the tail alone goes wrong, so that every kind of line is reached
            String tail = WHOLE;
            for (int i = random.nextInt(12); i >= 0; i--) {
                tail += (i % 3 == 0 ? ";" : " ") + PIECES[random.nextInt(PIECES.length)];
            }
            Check.laws(x, tail);
        }
    }

    private int number() {
        switch (random.nextInt(8)) {
            case 0:
                return random.nextInt();
            case 1:
                return random.nextBoolean() ? Integer.MIN_VALUE : Integer.MAX_VALUE;
            case 2:
                return random.nextInt(70000) - 1000;
            case 3:
                return random.nextInt(62) - 1;
            default:
                return random.nextInt(8) - 1;
        }
    }

    private void call() {
        int a = number();
        int b = number();
        int c = number();
        boolean f = random.nextBoolean();
        boolean g = random.nextBoolean();
        int which = random.nextInt(53);
        if (which < 18) {
            early(which, a, b, c);
        } else if (which < 36) {
            middle(which, a, b, c, f);
        } else {
            late(which, a, b, c, f, g);
        }
        int trouble = x.trouble();
        Check.due("trouble() is told", trouble >= 0 && trouble <= 6, true);
    }

    private void early(int which, int a, int b, int c) {
        switch (which) {
            case 0: x.feed(a, b, c, b, a); break;
            case 1: if (random.nextInt(6) == 0) { x.laws(a); } break;
            case 2: x.fault(); break;
            case 3: x.where(); break;
            case 4: x.person(a, b); break;
            case 5: x.far(a, b); break;
            case 6: x.worth(a, b); break;
            case 7: x.tax(a, b); break;
            case 8: x.chooses(a); break;
            case 9: x.waverers(); break;
            case 10: x.holders(a); break;
            case 11: x.fashion(); break;
            case 12: x.came(a); break;
            case 13: x.paid(); break;
            case 14: x.farthest(); break;
            case 15: x.raised(); break;
            case 16: x.harm(); break;
            default: x.raisedBy(a); break;
        }
    }

    private void middle(int which, int a, int b, int c, boolean f) {
        switch (which) {
            case 18: x.plan(a, b, f); break;
            case 19: x.planFirst(a, b); break;
            case 20: x.stays(a, b, f); break;
            case 21: x.planBy(a, b, c, f); break;
            case 22: x.harmBy(a); break;
            case 23: x.bestTable(); break;
            case 24: x.raisedThird(a); break;
            case 25: x.harmThird(a); break;
            case 26: x.stillTable(); break;
            case 27: x.rows(a); break;
            case 28: x.could(a); break;
            case 29: x.surely(a); break;
            case 30: x.firstOf(a); break;
            case 31: x.ask(); break;
            case 32: x.askLeaves(); break;
            case 33: x.liar(); break;
            case 34: x.caught(a); break;
            default: x.places(a); break;
        }
    }

    private void late(int which, int a, int b, int c, boolean f, boolean g) {
        switch (which) {
            case 36: x.enough(); break;
            case 37: x.catches(a); break;
            case 38: x.two(a, f, b, g, f ^ g); break;
            case 39: x.rests(a, b); break;
            case 40: x.rest(a, b); break;
            case 41: x.year(a, b); break;
            case 42: x.yearHeld(a, b, c); break;
            case 43: x.yearChanges(a, b); break;
            case 44: x.change(a, b); break;
            case 45: x.hours(a); break;
            case 46: x.seed(a); break;
            case 47: x.undo(); break;
            case 48: x.mark(); break;
            case 49: x.back(a); break;
            case 50: x.size(a); break;
            default: led(a); break;
        }
    }

    private void led(int i) {
        int home = 0;
        for (int p = 0; p < x.size(3); p++) {
            home += x.person(p, 1) == x.person(p, 2) ? 1 : 0;
        }
        boolean answered = false;
        try {
            answered = x.led(i) < x.size(3);
        } catch (NoSuchElementException e) {
            answered = false;
        }
        Check.due("led(" + i + ") of " + home, answered, i >= 0 && i < home);
    }
}
