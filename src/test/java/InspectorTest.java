/** Promises 36 to 39; Terms III, INSPECTORS. */
public final class InspectorTest {
    private static final String SHOPS = "tax root 0 third 1;choice a;shop m crowd 10;shop n crowd 20;shop o crowd 30;"
        + "shop p crowd 40;shop q crowd 50;shop r crowd 60;";

    public static void main(String[] args) {
        chain();
        alike();
        nobody();
        refusals();
        Check.end();
    }

    private static void chain() {
        WaverTax x = Check.under(SHOPS + "lane m n;lane n o;lane o p;lane q p;lane r q");
        int[] catches = {30, 60, 90, 120, 150, 110};
        for (int s = 0; s < 6; s++) {
            Check.due("catches(" + s + ")", x.catches(s), catches[s]);
        }
        Check.due("caught(0)", x.caught(0), 0);
        Check.due("places(0)", x.places(0), 0);
        Check.due("caught(1)", x.caught(1), 150);
        Check.due("places(1)", x.places(1), 16);
        Check.due("caught(2)", x.caught(2), 210);
        Check.due("places(2)", x.places(2), 18);
        Check.due("caught(6)", x.caught(6), 210);
        Check.due("places(6): the fewest", x.places(6), 18);
        Check.due("enough()", x.enough(), 2);
        x = Check.under(SHOPS.substring(0, SHOPS.length() - 1));
        Check.due("caught(2) without lanes", x.caught(2), 110);
        Check.due("places(2) without lanes", x.places(2), 48);
        Check.due("enough() without lanes", x.enough(), 6);
        Check.due("caught(6) without lanes", x.caught(6), 210);
        Check.due("catches(0)", x.catches(0), 10);
    }

    private static void alike() {
        WaverTax x = Check.under("tax root 0 third 1;choice a;shop m crowd 5;shop n crowd 5;shop o crowd 5;shop p crowd 0");
        Check.due("places(1): the least bits", x.places(1), 1);
        Check.due("places(2): the least bits", x.places(2), 3);
        Check.due("places(6): not where nobody is", x.places(6), 7);
        Check.due("enough(): a crowd of 0 is nobody", x.enough(), 3);
        x = Check.under("tax root 0 third 1;choice a;shop m crowd 5;shop n crowd 7;shop o crowd 5;shop p crowd 7;"
            + "lane m n;lane n o;lane o p;lane p m");
        Check.due("a crowd of 1", Check.under("tax root 0 third 1;choice a;shop m crowd 0;shop n crowd 1").places(2), 2);
        Check.due("places(1) in a ring", x.places(1), 1);
        Check.due("caught(1) in a ring", x.caught(1), 19);
        Check.due("places(2): two that are least", x.places(2), 3);
        Check.due("caught(2)", x.caught(2), 24);
    }

    private static void nobody() {
        WaverTax x = Check.under("tax root 0 third 1;choice a;shop m crowd 0;shop n crowd 0");
        Check.due("places(2)", x.places(2), 0);
        Check.due("caught(2)", x.caught(2), 0);
        Check.due("enough()", x.enough(), 0);
        x = Check.under("tax root 0 third 1;choice a");
        Check.due("places(6)", x.places(6), 0);
        Check.due("caught(6)", x.caught(6), 0);
        Check.due("enough()", x.enough(), 0);
        Check.refused(x, "catches(0)", x.catches(0), 1);
    }

    private static void refusals() {
        WaverTax x = new WaverTax();
        Check.refused(x, "caught(9)", x.caught(9), 1);
        Check.refused(x, "places(9)", x.places(9), 1);
        Check.refused(x, "enough()", x.enough(), 1);
        Check.refused(x, "catches(0)", x.catches(0), 1);
        x = Check.under(SHOPS + "lane m n");
        for (int bad : new int[] {-1, 7, Integer.MIN_VALUE, Integer.MAX_VALUE}) {
            Check.refused(x, "caught(bad)", x.caught(bad), 2);
            Check.refused(x, "places(bad)", x.places(bad), 2);
            Check.refused(x, "catches(bad)", x.catches(bad == 7 ? 6 : bad), 1);
        }
    }
}
