import java.util.NoSuchElementException;

/** Promises 6 to 16 and 52; Terms II. */
public final class NowTest {
    private static final String FOLK = "tax root 2 third 3;choice a;choice b;choice c;choice d;"
        + "far a b by 5;far d b by 7;far c a by 7;"
        + "person l plain holds a;person m mad holds b;person n child holds c;person o proud holds a;"
        + "likes l a worth 10;likes l b worth 15;likes l c worth 17;likes l d worth 11;"
        + "likes m c worth 1;likes n a worth 0;likes o b worth 11;likes o c worth 13;"
        + "reason l b at 1 odds 100 more 3;reason l b at 2 odds 100 more 4;reason o b at 1 odds 0 more 50";

    public static void main(String[] args) {
        people();
        taxes();
        choosing();
        who();
        refusals();
        Check.end();
    }

    private static void people() {
        WaverTax x = Check.under(FOLK);
        int[] sorts = {0, 1, 2, 3};
        int[] held = {0, 1, 2, 0};
        for (int p = 0; p < 4; p++) {
            Check.due("person(p, 0)", x.person(p, 0), sorts[p]);
            Check.due("person(p, 1)", x.person(p, 1), held[p]);
            Check.due("person(p, 2)", x.person(p, 2), held[p]);
            Check.due("person(p, 3)", x.person(p, 3), 0);
            Check.due("person(p, 4)", x.person(p, 4), 0);
            Check.due("person(p, 5)", x.person(p, 5), -2);
        }
        x.hours(3);
        x.change(3, 1);
        x.change(3, 3);
        Check.due("person(3, 1)", x.person(3, 1), 0);
        Check.due("person(3, 2)", x.person(3, 2), 3);
        Check.due("person(3, 3)", x.person(3, 3), 2);
        Check.due("person(3, 4)", x.person(3, 4), 2 * 5 + 2 * 14);
        Check.due("person(3, 5)", x.person(3, 5), 3);
        Check.due("paid()", x.paid(), 38);
        Check.due("far(0, 1)", x.far(0, 1), 5);
        Check.due("far(1, 0)", x.far(1, 0), 5);
        Check.due("far(1, 3)", x.far(1, 3), 7);
        Check.due("far(1, 2)", x.far(1, 2), 1);
        Check.due("far(3, 3)", x.far(3, 3), 0);
        Check.due("farthest()", x.farthest(), 2);
        x = Check.under("tax root 2 third 3;choice a;choice b;choice c;far c b by 2");
        Check.due("farthest()", x.farthest(), 12);
        x = Check.under("tax root 2 third 3;choice a;choice b;choice c");
        Check.due("farthest() of like ones", x.farthest(), 1);
        x = Check.under("tax root 2 third 3;choice a");
        Check.due("farthest() of one", x.farthest(), -2);
    }

    private static void taxes() {
        WaverTax x = Check.under(FOLK);
        Check.due("tax(0, 0)", x.tax(0, 0), 0);
        Check.due("tax(0, 1)", x.tax(0, 1), 5);
        Check.due("tax(1, 0) of the mad", x.tax(1, 0), 0);
        Check.due("tax(2, 0) of a child", x.tax(2, 0), 0);
        Check.due("tax(3, 1) of a proud one", x.tax(3, 1), 10);
        Check.due("change(0, 1)", x.change(0, 1), 5);
        Check.due("tax(0, 0) at once, half", x.tax(0, 0), 5);
        Check.due("tax(0, 3) at once", x.tax(0, 3), 14);
        x.hours(1);
        Check.due("tax(0, 3) an hour later", x.tax(0, 3), 14);
        x.hours(1);
        Check.due("tax(0, 3) root hours later", x.tax(0, 3), 7);
        Check.due("tax(0, 0), half downwards", x.tax(0, 0), 2);
        Check.due("change(0, 3)", x.change(0, 3), 7);
        x.hours(2);
        Check.due("tax(0, 1) of a third change", x.tax(0, 1), 21);
        Check.due("tax(0, 0) of a third change", x.tax(0, 0), 1);
        Check.due("change(3, 1)", x.change(3, 1), 10);
        x.hours(2);
        Check.due("tax(3, 0): half downwards, then twice", x.tax(3, 0), 4);
        x.change(3, 0);
        Check.due("tax(3, 1): soon, third, proud", x.tax(3, 1), 5 * 2 * 3 * 2);
        x.change(3, 1);
        x.hours(2);
        Check.due("tax(3, 3) of a fourth change", x.tax(3, 3), 7 * 3 * 2);
        Check.due("mad change(1, 0)", x.change(1, 0), 0);
        Check.due("person(1, 3)", x.person(1, 3), 1);
        x = Check.under("tax root 0 third 4;choice a;choice b;person p plain holds a");
        x.change(0, 1);
        Check.due("root 0: never soon", x.tax(0, 0), 0);
        x.change(0, 0);
        Check.due("third 4", x.tax(0, 1), 4);
        x = Check.under("tax root 9 third 4;choice a;choice b;far a b by 9;person p proud holds a");
        x.change(0, 1);
        x.hours(8);
        Check.due("8 hours ago, root 9", x.tax(0, 0), 18);
        x.hours(1);
        Check.due("9 hours ago, root 9", x.tax(0, 0), 8);
    }

    private static void choosing() {
        WaverTax x = Check.under(FOLK);
        Check.due("worth(0, 1)", x.worth(0, 1), 15);
        Check.due("chooses(0): like ones, that he holds", x.chooses(0), 0);
        Check.due("chooses(1)", x.chooses(1), 2);
        Check.due("chooses(2): like ones", x.chooses(2), 2);
        Check.due("chooses(3)", x.chooses(3), 1);
        Check.due("waverers()", x.waverers(), 10);
        Check.due("hours(1)", x.hours(1), 1);
        Check.due("came(0)", x.came(0), 1);
        Check.due("came(1)", x.came(1), 0);
        Check.due("came(2)", x.came(2), 0);
        Check.due("worth(0, 1) and more", x.worth(0, 1), 18);
        Check.due("worth(3, 1) is his alone", x.worth(3, 1), 11);
        Check.due("chooses(0)", x.chooses(0), 1);
        Check.due("hours(1)", x.hours(1), 1);
        Check.due("worth(0, 1) twice more", x.worth(0, 1), 22);
        Check.due("worth(0, 0)", x.worth(0, 0), 10);
        x = Check.under("tax root 2 third 3;choice a;choice b;choice c;person p plain holds a;"
            + "likes p b worth 2;likes p c worth 2");
        Check.due("chooses(0): of like ones the first", x.chooses(0), 1);
        x.change(0, 2);
        Check.due("chooses(0): that he holds", x.chooses(0), 2);
    }

    private static void who() {
        WaverTax x = Check.under(FOLK);
        Check.due("holders(0)", x.holders(0), 9);
        Check.due("holders(1)", x.holders(1), 2);
        Check.due("holders(3)", x.holders(3), 0);
        Check.due("fashion()", x.fashion(), 0);
        Check.due("paid()", x.paid(), 0);
        Check.due("led(3)", x.led(3), 3);
        noLed(x, 4);
        noLed(x, -1);
        noLed(x, Integer.MIN_VALUE);
        noLed(new WaverTax(), 0);
        x.change(0, 2);
        Check.due("holders(2)", x.holders(2), 5);
        Check.due("fashion()", x.fashion(), 2);
        Check.due("led(0)", x.led(0), 1);
        Check.due("led(2)", x.led(2), 3);
        noLed(x, 3);
        x.change(2, 1);
        Check.due("fashion()", x.fashion(), 1);
        x.change(1, 3);
        Check.due("fashion() of like ones the first", x.fashion(), 0);
        x.change(2, 2);
        Check.due("led(0) who came home", x.led(0), 2);
    }

    private static void noLed(WaverTax x, int i) {
        int thrown = 0;
        int before = x.trouble();
        try {
            x.led(i);
        } catch (NoSuchElementException e) {
            thrown = 1;
        }
        Check.due("led(" + i + ") throws", thrown, 1);
        Check.due("led(" + i + ") leaves trouble()", x.trouble(), before);
    }

    private static void refusals() {
        for (WaverTax x : new WaverTax[] {new WaverTax(), Check.under(FOLK)}) {
            for (int bad : new int[] {-1, 4, Integer.MAX_VALUE, Integer.MIN_VALUE}) {
                Check.refused(x, "person(bad, 0)", x.person(bad, 0), 1);
                Check.refused(x, "person(0, bad)", x.person(0, bad == 4 ? 6 : bad), 1);
                Check.refused(x, "far(bad, 0)", x.far(bad, 0), 1);
                Check.refused(x, "far(0, bad)", x.far(0, bad), 1);
                Check.refused(x, "worth(bad, 0)", x.worth(bad, 0), 1);
                Check.refused(x, "worth(0, bad)", x.worth(0, bad), 1);
                Check.refused(x, "tax(bad, 0)", x.tax(bad, 0), 1);
                Check.refused(x, "tax(0, bad)", x.tax(0, bad), 1);
                Check.refused(x, "chooses(bad)", x.chooses(bad), 1);
                Check.refused(x, "holders(bad)", x.holders(bad), 1);
                Check.refused(x, "came(bad)", x.came(bad == 4 ? 3 : bad), 1);
            }
        }
        WaverTax x = new WaverTax();
        Check.refused(x, "waverers()", x.waverers(), 1);
        Check.refused(x, "fashion()", x.fashion(), 1);
        Check.refused(x, "paid()", x.paid(), 1);
        Check.refused(x, "farthest()", x.farthest(), 1);
        x = Check.under(FOLK);
        x.far(9, 9);
        x.far(0, 0);
        Check.due("trouble() of a call that wasn't refused", x.trouble(), 0);
    }
}
