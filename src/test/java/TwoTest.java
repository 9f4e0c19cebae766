/** Promises 40 to 42; Terms III, TWO and REST. */
public final class TwoTest {
    private static final String LAW = "tax root 3 third 2;choice a;choice b;far a b by 3;"
        + "person p plain holds a;person q proud holds b;person r plain holds a;person s mad holds b;"
        + "likes p a worth 9;likes p b worth 4;likes q a worth 8;likes q b worth 2;likes r b worth 20;likes s a worth 20;"
        + "likes r a worth 1";

    public static void main(String[] args) {
        what();
        rests();
        neitherAlone();
        alike();
        refusals();
        Check.end();
    }

    private static void what() {
        WaverTax x = Check.under(LAW);
        boolean[] both = {false, true};
        int[] one = {9, 14, 6, 1};
        int[] other = {2, 7, 7, 2};
        // stay, stay: 9, 2; stay, change: 14, 8 - 6 + 5; change, stay: 4 - 3 + 5, 7; both change: 1, 2
        int pair = 0;
        for (boolean changes : both) {
            for (boolean others : both) {
                Check.due("two of the one " + pair, x.two(0, changes, 1, others, false), one[pair]);
                Check.due("two of the other " + pair, x.two(0, changes, 1, others, true), other[pair]);
                Check.due("two turned round " + pair, x.two(1, others, 0, changes, true), one[pair]);
                pair++;
            }
        }
        Check.due("trouble()", x.trouble(), 0);
    }

    private static void rests() {
        WaverTax x = Check.under(LAW);
        Check.due("rests(0, 1): stay and change alone", x.rests(0, 1), 1);
        Check.due("rest(0, 1)", x.rest(0, 1), 1);
        Check.due("rest(1, 0)", x.rest(1, 0), 10);
        // r and s, each of whom would rather have what the other one holds
        Check.due("rests(2, 3)", x.rests(2, 3), 1);
        Check.due("rest(2, 3): both change", x.rest(2, 3), 11);
        x = Check.under("tax root 3 third 2;choice a;choice b;person p plain holds a;person q plain holds b;"
            + "likes p a worth 9;likes q b worth 9");
        Check.due("rest(0, 1): both stay", x.rest(0, 1), 0);
        Check.due("rests(0, 1)", x.rests(0, 1), 1);
        x = Check.under("tax root 3 third 2;choice a;choice b;person p plain holds a;person q plain holds b");
        // either may come to the other one, for 5 less 1
        Check.due("rests(0, 1)", x.rests(0, 1), 2);
        Check.due("rest(0, 1): the one stays ahead", x.rest(0, 1), 1);
        x = Check.under("tax root 3 third 2;choice a;choice b;person p mad holds a;person q mad holds b;likes p a worth 5");
        Check.due("as much is no more", x.rests(0, 1), 2);
        Check.due("rest(0, 1)", x.rest(0, 1), 1);
    }

    private static void neitherAlone() {
        for (int wp = 0; wp <= 12; wp++) {
            for (int wq = 0; wq <= 12; wq++) {
                WaverTax x = Check.under("tax root 9 third 4;choice a;choice b;far a b by 2;person p plain holds a;"
                    + "person q plain holds b;likes p b worth " + wp + ";likes q a worth " + wq);
                Check.due("rests(0, 1) of " + wp + ", " + wq, x.rests(0, 1), countRests(x));
            }
        }
    }

    private static int countRests(WaverTax x) {
        int count = 0;
        for (int pair = 0; pair < 4; pair++) {
            boolean one = pair > 1;
            boolean other = pair % 2 == 1;
            if (x.two(0, one, 1, other, false) >= x.two(0, !one, 1, other, false)
                && x.two(0, one, 1, other, true) >= x.two(0, one, 1, !other, true)) {
                count++;
            }
        }
        return count;
    }

    private static void alike() {
        WaverTax x = Check.under(LAW);
        Check.due("two who hold one", x.two(0, false, 2, false, false), 14);
        Check.due("a change to what he holds costs nothing", x.two(0, true, 2, false, false), 14);
        Check.due("rests(0, 2): all pairs", x.rests(0, 2), 4);
        Check.due("rest(0, 2)", x.rest(0, 2), 0);
        x.change(0, 1);
        Check.due("NOW: soon, and home by half", x.two(0, true, 2, false, false), 9 - 3 + 5);
        Check.due("NOW: the other one changes", x.two(0, false, 2, true, true), 20 - 3 + 5);
    }

    private static void refusals() {
        for (WaverTax x : new WaverTax[] {new WaverTax(), Check.under(LAW)}) {
            for (int bad : new int[] {-1, 4, Integer.MIN_VALUE, Integer.MAX_VALUE}) {
                Check.refused(x, "two(bad, 0)", x.two(bad, true, 0, true, false), 1);
                Check.refused(x, "two(0, bad)", x.two(0, true, bad, true, false), 1);
                Check.refused(x, "rests(bad, 0)", x.rests(bad, 0), 1);
                Check.refused(x, "rests(0, bad)", x.rests(0, bad), 1);
                Check.refused(x, "rest(bad, 0)", x.rest(bad, 0), 1);
                Check.refused(x, "rest(0, bad)", x.rest(0, bad), 1);
            }
            Check.refused(x, "two(1, 1)", x.two(1, true, 1, true, false), 1);
            Check.refused(x, "rests(1, 1)", x.rests(1, 1), 1);
            Check.refused(x, "rest(1, 1)", x.rest(1, 1), 1);
        }
    }
}
