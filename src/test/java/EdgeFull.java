/** A law with as many lines of each sort as there is room for, and what is left of it by the next law: nothing. */
final class EdgeFull {
    static final String FULL = "tax root9third4;choice a;choice b;choice c;choice d;choice e;"
        + "far a b by9;far a c by9;far a d by9;far a e by9;far b c by9;far b d by9;far b e by9;far c d by9;far c e by9;far d e by9;"
        + "person p plain holds e;person q proud holds e;person r mad holds e;person s child holds e;person t plain holds e;"
        + "likes p a worth99;likes p b worth98;likes p c worth97;likes p d worth96;likes p e worth95;"
        + "likes q a worth99;likes q b worth0;likes q c worth0;likes q d worth0;likes q e worth10;likes t d worth99;likes t e worth1;"
        + "reason p e at1odds100more50;reason p e at2odds50more50;reason p e at3odds50more50;reason p e at3odds1more50;"
        + "paid r 0hour0;paid r 0hour1;paid r 0hour2;paid r 0hour98;paid r 0hour99;"
        + "shop f crowd99;shop g crowd99;shop h crowd99;shop i crowd99;shop j crowd99;shop k crowd99;"
        + "lane f g;lane g h;lane h i;lane i j;lane j k;lane k f;lane f i;lane g j";
    private static final String LITTLE = "tax root 0 third 1;choice x;choice y;person v plain holds x;person w plain holds y;"
        + "likes v y worth 1;reason w x at 2 odds 0 more 1;paid w 77 hour 5;shop z crowd 1;shop u crowd 2";
    private static final String LEAST = "tax root 0 third 1;choice a";

    private EdgeFull() {
    }

    static void run() {
        Edge.ofOne("Promise 3", "are the LAW from now on");
        sizes();
        people();
        reasons();
        receipts();
        shops();
        nothingIsLeft();
    }

    private static void sizes() {
        WaverTax x = Edge.law(FULL, 5);
        int[] due = {9, 4, 5, 5, 12, 4, 5, 6, 8, 0, 0, 0, 0, 0};
        for (int what = 0; what < due.length; what++) {
            Edge.near("size(" + what + ")", x.size(what), due[what]);
        }
        Edge.near("farthest()", x.farthest(), 1);
        Edge.near("fashion()", x.fashion(), 4);
        Edge.near("holders(4)", x.holders(4), 31);
        Edge.near("led(4)", x.led(4), 4);
    }

    private static void people() {
        WaverTax x = Edge.law(FULL, 5);
        // p stays, and misses 4; q pays 18; t pays 9
        Edge.near("raised() of five", x.raised(), 27);
        Edge.near("harm() of five", x.harm(), 31);
        Edge.near("waverers()", x.waverers(), 18);
        Edge.near("raisedBy(3): p too, q and t", x.raisedBy(3), 3 + 6 + 3);
        Edge.near("harmBy(4): p is as well off staying", x.harmBy(4), 4 + 8 + 4);
        Edge.near("stillTable()", x.stillTable(), -2);
        Edge.near("year(0, 1) of five", x.year(0, 1), 27);
        Edge.near("yearChanges(0, 1)", x.yearChanges(0, 1), 2);
        Edge.near("yearHeld(4, 0, 1)", x.yearHeld(4, 0, 1), 3);
        Edge.near("paid()", x.paid(), 0);
        x.change(4, 0);
        Edge.near("paid() by the fifth", x.paid(), 9);
        // soon, and then a third change: 9 times 2 times 4
        x.change(4, 1);
        Edge.near("tax(4, 2)", x.tax(4, 2), 72);
        Edge.near("tax(4, 4), home", x.tax(4, 4), 36);
        Edge.near("raisedThird(1): q 18, and t, soon, to d 18", x.raisedThird(1), 18 + 18);
        Edge.near("two(3, true, 4, true, true)", x.two(3, true, 4, true, true), 1 - 36);
    }

    private static void reasons() {
        WaverTax x = Edge.law(FULL, 5);
        // 95, 145, 170, and 195 and a half
        Edge.near("stays(0, 4) upper", x.stays(0, 4, false), 1211);
        Edge.near("stays(0, 4) lower", x.stays(0, 4, true), 2);
        Edge.near("plan(0, 4) upper", x.plan(0, 4, false), 1211);
        Edge.near("plan(0, 4) lower", x.plan(0, 4, true), 2);
        Edge.near("planFirst(0, 4)", x.planFirst(0, 4), 4);
        Edge.near("planBy(0, 4, 4) upper", x.planBy(0, 4, 4, false), 1211);
        Edge.near("stays(4, 4)", x.stays(4, 4, false), 4);
        Edge.near("plan(4, 4): d at once", x.plan(4, 4, false), 4 * 99 - 9);
        // draws of 74, 24, 52 and 90
        Edge.near("hours(3)", x.hours(3), 2);
        Edge.near("came(1): 24 is below 50", x.came(1), 1);
        Edge.near("came(2): 52 is not", x.came(2), 0);
        Edge.near("worth(0, 4)", x.worth(0, 4), 195);
    }

    private static void receipts() {
        WaverTax x = Edge.law(FULL, 5);
        Edge.near("rows(2)", x.rows(2), 1024);
        Edge.near("could(0)", x.could(0), 15);
        Edge.near("could(4)", x.could(4), 31);
        Edge.near("surely(4)", x.surely(4), -2);
        Edge.near("firstOf(4)", x.firstOf(4), 0);
        // of 1024 rows the last receipt has 204 by e and 205 by each other one; those ahead leave 208 and 256
        Edge.near("ask()", x.ask(), 4);
        Edge.near("askLeaves()", x.askLeaves(), 205);
        Edge.near("liar()", x.liar(), -2);
    }

    private static void shops() {
        WaverTax x = Edge.law(FULL, 5);
        Edge.near("caught(1)", x.caught(1), 4 * 99);
        Edge.near("places(1)", x.places(1), 1);
        Edge.near("caught(2)", x.caught(2), 6 * 99);
        Edge.near("places(2)", x.places(2), 3);
        Edge.near("places(6)", x.places(6), 3);
        Edge.near("enough()", x.enough(), 2);
        Edge.near("catches(5)", x.catches(5), 3 * 99);
    }

    private static void nothingIsLeft() {
        for (String text : new String[] {LITTLE, LEAST}) {
            String fresh = everything(Check.under(text));
            // an object may keep more than one law somewhere, so a third and a fourth must not lie upon the first two
            for (int ahead = 1; ahead <= 3; ahead++) {
                WaverTax x = new WaverTax();
                for (int i = 0; i < ahead; i++) {
                    Check.laws(x, FULL);
                    x.ask();
                    x.hours(3);
                    x.change(0, 0);
                    x.mark();
                }
                Check.laws(x, text);
                Edge.near("all answers are as of a new object, " + ahead + " laws ahead of " + text, everything(x).equals(fresh), true);
            }
            WaverTax x = Check.under(text);
            Check.laws(x, FULL + ";");
            Edge.near("all answers are as ahead of a FAULT, by " + text, everything(x).equals(fresh), true);
            Check.laws(x, FULL + ";^");
            Check.laws(x, text);
            Edge.near("all answers are as of a new object behind a FAULT, by " + text, everything(x).equals(fresh), true);
        }
    }

    /** What all calls that change nothing answer, told one behind the other. */
    private static String everything(WaverTax x) {
        StringBuilder all = new StringBuilder(Edge.stand(x));
        int[] whole = {x.waverers(), x.fashion(), x.paid(), x.farthest(), x.raised(), x.harm(), x.bestTable(), x.stillTable(),
            x.ask(), x.askLeaves(), x.liar(), x.enough(), x.raisedBy(3), x.harmBy(3), x.raisedThird(4), x.harmThird(4),
            x.caught(2), x.places(6), x.year(0, 9), x.yearChanges(0, 9), x.rests(0, 1), x.rest(0, 1), x.two(0, true, 1, true, true)};
        for (int answer : whole) {
            all.append(answer).append(' ');
        }
        for (int i = 0; i < 3; i++) {
            long[] each = {x.chooses(i), x.holders(i), x.far(i, 1), x.far(1, i), x.came(i), x.plan(i, 3, false), x.plan(i, 3, true),
                x.stays(i, 3, false), x.planFirst(i, 3), x.planBy(i, 3, 1, false), x.rows(i), x.could(i), x.surely(i), x.firstOf(i),
                x.catches(i), x.yearHeld(i, 0, 9), Edge.thrown(x, i), x.worth(i, 1), x.tax(i, 1)};
            for (long answer : each) {
                all.append(answer).append(' ');
            }
        }
        return all.toString();
    }
}
