/** Boundaries of Term III's RECEIPTS and ASK and of promises 29 to 35. */
final class EdgeReceipts {
    private static final String III = "Term III";
    /** From a to b costs 2, to c 3; from b to c 4. */
    private static final String ABC = "tax root 3 third 2;choice a;choice b;choice c;far a b by 2;far a c by 3;far b c by 4;";
    private static final String P = ABC + "person p plain holds a;";
    private static final String MAD = "tax root 0 third 1;choice a;choice b;choice c;person m mad holds b;";

    private EdgeReceipts() {
    }

    static void run() {
        rows();
        taxes();
        ask();
        rowsOf();
        could();
        surely();
        firstOf();
        asks();
        askLeaves();
        liar();
    }

    private static void rows() {
        Edge.of(III, "RECEIPTS of one: rows of CHOICES, one for each receipt, by hours, from the one he held first, each another one than that ahead");
        WaverTax x = Check.under(MAD + "paid m 0 hour 0");
        Edge.near("rows(0): all but the one he held first", x.rows(0), 2);
        Edge.near("could(0)", x.could(0), 5);
        x = Check.under(MAD + "paid m 0 hour 0;paid m 0 hour 1");
        Edge.near("rows(0): each another one than that ahead", x.rows(0), 4);
        Edge.near("could(1): by then the first one too", x.could(1), 7);
        x = Check.under("tax root 0 third 1;choice a;person m mad holds a;paid m 0 hour 0");
        Edge.far("rows(0): there is no other one", x.rows(0), 0);
        x = Check.under("tax root 0 third 1;choice a;choice b;person m mad holds a;paid m 0 hour 0;paid m 0 hour 1;"
            + "paid m 0 hour 2;paid m 0 hour 3;paid m 0 hour 4");
        Edge.near("rows(0): to and fro", x.rows(0), 1);
        for (int k = 0; k < 5; k++) {
            Edge.near("surely(" + k + ")", x.surely(k), 1 - k % 2);
        }
        x = Check.under("tax root 0 third 1;choice a;choice b;choice c;choice d;choice e;person m child holds a;paid m 0 hour 0;"
            + "paid m 0 hour 1;paid m 0 hour 2;paid m 0 hour 3;paid m 0 hour 4");
        Edge.near("rows(0), as many as can be", x.rows(0), 1024);
        x = Check.under(MAD + "paid m 0 hour 0");
        x.hours(5);
        x.change(0, 0);
        Edge.far("could(0): from what he held first, not from what he holds NOW", x.could(0), 5);
        x = Check.under(MAD + "person p mad holds a;paid m 0 hour 3;paid p 0 hour 1;paid m 0 hour 4");
        Edge.far("rows(0): another one's receipt is none of his", x.rows(0), 4);
        Edge.far("rows(1)", x.rows(1), 2);
    }

    private static void taxes() {
        Edge.of(III, "so that the TAX of each change is what was paid, at its hour: all such rows.");
        Edge.near("rows(0): 2 is paid for b", Check.under(P + "paid p 2 hour 0").rows(0), 1);
        Edge.near("surely(0): 3 is paid for c", Check.under(P + "paid p 3 hour 99").surely(0), 2);
        for (int amount : new int[] {0, 1, 4, 999}) {
            Edge.far("rows(0): nothing costs " + amount, Check.under(P + "paid p " + amount + " hour 0").rows(0), 0);
        }
        // b to c: twice 4 within 3 hours
        Edge.near("rows(0): 2 hours behind, twice", Check.under(P + "paid p 2 hour 5;paid p 8 hour 7").rows(0), 1);
        Edge.far("rows(0): 2 hours behind, not once", Check.under(P + "paid p 2 hour 5;paid p 4 hour 7").rows(0), 0);
        Edge.near("rows(0): 3 hours behind, once", Check.under(P + "paid p 2 hour 5;paid p 4 hour 8").rows(0), 1);
        Edge.far("rows(0): 3 hours behind, not twice", Check.under(P + "paid p 2 hour 5;paid p 8 hour 8").rows(0), 0);
        // the third change costs twice, home the half of it
        Edge.near("surely(2): third, c to b", Check.under(P + "paid p 2 hour 0;paid p 4 hour 10;paid p 8 hour 20").surely(2), 1);
        Edge.near("surely(2): third, home by half of 6", Check.under(P + "paid p 2 hour 0;paid p 4 hour 10;paid p 3 hour 20").surely(2), 0);
        Edge.far("rows(0): third, not once", Check.under(P + "paid p 2 hour 0;paid p 4 hour 10;paid p 4 hour 20").rows(0), 0);
        // from a by 2 to b or c, then, an hour later, by 2 home or to d: each row by itself
        String many = "tax root 3 third 2;choice a;choice b;choice c;choice d;far a b by 2;far a c by 2;far a d by 6;far b c by 4;"
            + "person p plain holds a;paid p 2 hour 4;paid p 2 hour 5";
        Edge.near("rows(0): ba, bd, ca, cd", Check.under(many).rows(0), 4);
        Edge.near("could(1)", Check.under(many).could(1), 9);
        // third changes, at once: from a 24 to d; from d home 12, to b or c 4
        Edge.near("rows(0) of three", Check.under(many + ";paid p 4 hour 6").rows(0), 4);
        Edge.near("could(2) of three", Check.under(many + ";paid p 4 hour 6").could(2), 6);
        Edge.near("rows(0) of three, home", Check.under(many + ";paid p 12 hour 6").rows(0), 2);
        Edge.near("surely(1) of three, home", Check.under(many + ";paid p 12 hour 6").surely(1), 3);
        // long behind: home for half of 2, to d for 1, whichever is looked at first
        Edge.near("rows(0): ba, bd, ca, cd, long behind", Check.under(many.replace("paid p 2 hour 5", "paid p 1 hour 40")).rows(0), 4);
        Edge.near("rows(0): a second home by half of 3, downwards", Check.under(P + "paid p 3 hour 0;paid p 1 hour 10").rows(0), 1);
        String proud = ABC + "person p proud holds a;";
        Edge.near("surely(0) of a proud one", Check.under(proud + "paid p 4 hour 0").surely(0), 1);
        Edge.far("rows(0) of a proud one", Check.under(proud + "paid p 2 hour 0").rows(0), 0);
        Edge.near("surely(1) of a proud one: home by half of 3, then twice", Check.under(proud + "paid p 6 hour 0;paid p 2 hour 10").surely(1), 0);
        Edge.far("rows(0) of the mad: he paid something", Check.under(MAD + "paid m 1 hour 0").rows(0), 0);
        WaverTax x = Check.under(P + "paid p 2 hour 0");
        x.change(0, 2);
        x.change(0, 1);
        Edge.near("rows(0): what is changed NOW is no matter", x.rows(0), 1);
    }

    private static void ask() {
        Edge.of(III, "ASK: the receipt (of all) by which, the CHOICE then being told, at most fewest rows of that person are left, the first such.");
        // the mad one held b: ab, ac, ca, cb
        WaverTax x = Check.under(MAD + "paid m 0 hour 0;paid m 0 hour 1");
        // first: a or c, 2 each; second: a once, b twice, c once
        Edge.far("ask() of like ones: the first", x.ask(), 0);
        Edge.far("askLeaves()", x.askLeaves(), 2);
        x = Check.under(MAD + "person n mad holds a;paid n 0 hour 0;paid n 0 hour 1");
        // who held a: ba, bc, ca, cb; second: a twice
        Edge.far("ask() of like ones: the first", x.ask(), 0);
        Edge.far("askLeaves()", x.askLeaves(), 2);
        x = Check.under(MAD + "paid m 0 hour 0;paid m 0 hour 1;paid m 0 hour 2");
        // eight rows; first: 4 and 4; second: b 4, a 2, c 2; third: a 3, c 3, b 2
        Edge.near("ask(): the third leaves fewest", x.ask(), 2);
        Edge.near("askLeaves()", x.askLeaves(), 3);
        x = Check.under(MAD + "person p plain holds a;paid m 0 hour 0;paid m 0 hour 1;paid p 1 hour 0");
        // p went to b or c for 1, either leaves one
        Edge.near("ask(): of all, not of the first person alone", x.ask(), 2);
        Edge.near("askLeaves()", x.askLeaves(), 1);
        x = Check.under(MAD + "person p plain holds a;paid p 1 hour 0;paid m 0 hour 0");
        Edge.far("ask() of like ones: the first receipt", x.ask(), 0);
    }

    private static void rowsOf() {
        Edge.ofOne("Promise 29", "RECEIPTS: how many rows.");
        Edge.near("rows(0)", Check.under(MAD + "paid m 0 hour 0").rows(0), 2);
        WaverTax x = Check.under(P + "paid p 1 hour 0");
        Edge.near("rows(0): receipts, but no rows", x.rows(0), 0);
        Edge.near("trouble(): that is no refusal", x.trouble(), 0);
        Edge.of("Promise 29", "NONE: 1; 6 (he has no receipt).");
        x = Check.under(P + "person q plain holds a;paid q 2 hour 0");
        Edge.taken(x, "rows(1), who has one", x.rows(1), 1);
        Edge.refused(x, "rows(0), who has none", x.rows(0), 6);
        for (int bad : new int[] {-1, 2, 5, Integer.MIN_VALUE, Integer.MAX_VALUE}) {
            Edge.refused(x, "rows(" + bad + ")", x.rows(bad), 1);
        }
        x = new WaverTax();
        Edge.refused(x, "rows(0) without a LAW", x.rows(0), 1);
    }

    private static void could() {
        Edge.of("Promise 30", "CHOICES of a receipt in some row, as bits.");
        WaverTax x = Check.under(MAD + "paid m 0 hour 0;paid m 0 hour 1");
        Edge.near("could(0)", x.could(0), 5);
        Edge.near("could(1)", x.could(1), 7);
        x = Check.under(P + "paid p 2 hour 0;paid p 1 hour 10");
        Edge.near("could(0): one alone", x.could(0), 2);
        Edge.near("could(1): home by half of 2", x.could(1), 1);
        x = Check.under(P + "paid p 2 hour 0;paid p 999 hour 10");
        Edge.far("could(0): no row, though the first would do", x.could(0), 0);
        Edge.far("could(1)", x.could(1), 0);
        Edge.of("Promise 30", "NONE: 1.");
        badReceipts("could");
    }

    /** Receipts from the last to none such, of as many as there may be, of one, and of none. */
    private static void badReceipts(String call) {
        WaverTax x = Check.under(MAD + "paid m 0 hour 0;paid m 0 hour 1;paid m 0 hour 2;paid m 0 hour 3;paid m 0 hour 4");
        int answer = receipt(x, call, 4);
        Edge.taken(x, call + "(4) of five", answer, call.equals("could") ? 7 : call.equals("surely") ? -2 : 0);
        for (int bad : new int[] {-1, 5, 6, Integer.MIN_VALUE, Integer.MAX_VALUE}) {
            answer = receipt(x, call, bad);
            Edge.refused(x, call + "(" + bad + ") of five", answer, 1);
        }
        x = Check.under(P + "paid p 2 hour 0");
        answer = receipt(x, call, 0);
        Edge.taken(x, call + "(0) of one", answer, call.equals("could") ? 2 : 1);
        answer = receipt(x, call, 1);
        Edge.refused(x, call + "(1) of one", answer, 1);
        x = Check.under(ABC + "person p plain holds a");
        answer = receipt(x, call, 0);
        Edge.refused(x, call + "(0) of none", answer, 1);
        x = new WaverTax();
        answer = receipt(x, call, 0);
        Edge.refused(x, call + "(0) without a LAW", answer, 1);
    }

    private static int receipt(WaverTax x, String call, int k) {
        return call.equals("could") ? x.could(k) : call.equals("surely") ? x.surely(k) : x.firstOf(k);
    }

    private static void surely() {
        Edge.of("Promise 31", "The one in all; -2.");
        WaverTax x = Check.under(P + "paid p 2 hour 0");
        Edge.near("surely(0): in all rows, of one row", x.surely(0), 1);
        x = Check.under("tax root 0 third 1;choice a;choice b;choice c;far a b by 4;person p plain holds a;paid p 4 hour 0;paid p 1 hour 1");
        Edge.near("rows(0)", x.rows(0), 1);
        Edge.near("surely(1)", x.surely(1), 2);
        x = Check.under("tax root 0 third 1;choice a;choice b;choice c;far a b by 2;person p plain holds a;paid p 2 hour 0;paid p 1 hour 1");
        Edge.near("rows(0): b, then c by 1 or home by half of 2", x.rows(0), 2);
        Edge.near("surely(0): in both rows", x.surely(0), 1);
        Edge.far("surely(1): in one of two", x.surely(1), -2);
        x = Check.under(MAD + "paid m 0 hour 0;paid m 0 hour 1;paid m 0 hour 2");
        Edge.far("surely(1): in most, but not in all", x.surely(1), -2);
        x = Check.under(P + "paid p 2 hour 0;paid p 999 hour 1");
        Edge.far("surely(0): there is no row", x.surely(0), -2);
        Edge.far("trouble(): that is no refusal", x.trouble(), 0);
        Edge.of("Promise 31", "NONE: 1.");
        badReceipts("surely");
    }

    private static void firstOf() {
        Edge.of("Promise 32", "That in the first row (by CHOICES, receipt by receipt)");
        WaverTax x = Check.under(MAD + "paid m 0 hour 0;paid m 0 hour 1;paid m 0 hour 2");
        Edge.near("firstOf(0)", x.firstOf(0), 0);
        Edge.near("firstOf(1): another one than that ahead", x.firstOf(1), 1);
        Edge.near("firstOf(2)", x.firstOf(2), 0);
        x = Check.under(P + "paid p 3 hour 0;paid p 4 hour 10");
        Edge.far("firstOf(0): the first CHOICE is in no row", x.firstOf(0), 2);
        Edge.far("firstOf(1)", x.firstOf(1), 1);
        // by its first receipt alone it would be b, but then nothing costs 5
        x = Check.under("tax root 0 third 1;choice a;choice b;choice c;choice d;far c d by 5;person p plain holds a;paid p 1 hour 0;paid p 5 hour 1");
        Edge.far("firstOf(0): of whole rows", x.firstOf(0), 2);
        Edge.far("firstOf(1)", x.firstOf(1), 3);
        Edge.of("Promise 32", "-2 there is none.");
        x = Check.under(P + "paid p 2 hour 0;paid p 999 hour 10");
        Edge.taken(x, "firstOf(0) without a row", x.firstOf(0), -2);
        Edge.taken(x, "firstOf(1) without a row", x.firstOf(1), -2);
        x = Check.under(P + "paid p 2 hour 0;paid p 4 hour 10");
        Edge.far("firstOf(0) of one row", x.firstOf(0), 1);
        Edge.of("Promise 32", "NONE: 1.");
        badReceipts("firstOf");
    }

    private static void asks() {
        Edge.ofOne("Promise 33", "ASK;");
        Edge.near("ask()", Check.under(MAD + "paid m 0 hour 0;paid m 0 hour 1;paid m 0 hour 2").ask(), 2);
        Edge.of("Promise 33", "-2 nobody has a receipt and rows.");
        WaverTax x = Check.under(ABC + "person p plain holds a");
        Edge.taken(x, "ask(): nobody has a receipt", x.ask(), -2);
        x = Check.under(P + "paid p 999 hour 0");
        Edge.taken(x, "ask(): a receipt, but no rows", x.ask(), -2);
        x = Check.under(P + "person q plain holds a;paid p 999 hour 0;paid q 2 hour 0");
        Edge.far("ask(): another one has both", x.ask(), 1);
        x = Check.under("tax root 0 third 1;choice a");
        Edge.taken(x, "ask(): there is nobody", x.ask(), -2);
        Edge.of("Promise 33", "NONE: 1 (no LAW).");
        Edge.taken(x, "ask()", x.ask(), -2);
        x = new WaverTax();
        Edge.refused(x, "ask() without a LAW", x.ask(), 1);
    }

    private static void askLeaves() {
        Edge.of("Promise 34", "How many are left at most then");
        Edge.near("askLeaves(): one row alone", Check.under(P + "paid p 2 hour 0").askLeaves(), 1);
        Edge.near("askLeaves()", Check.under(MAD + "paid m 0 hour 0;paid m 0 hour 1;paid m 0 hour 2").askLeaves(), 3);
        Edge.far("askLeaves(): not of him who has no rows",
            Check.under(MAD + "person p plain holds a;paid p 999 hour 0;paid m 0 hour 0;paid m 0 hour 1").askLeaves(), 2);
        Edge.of("Promise 34", "-2 likewise.");
        WaverTax x = Check.under(P + "paid p 999 hour 0");
        Edge.taken(x, "askLeaves(): no rows", x.askLeaves(), -2);
        x = Check.under(ABC + "person p plain holds a");
        Edge.taken(x, "askLeaves(): no receipt", x.askLeaves(), -2);
        Edge.far("askLeaves() of one row", Check.under(P + "paid p 2 hour 0").askLeaves(), 1);
        Edge.of("Promise 34", "NONE: 1 (no LAW).");
        x = Check.under("tax root 0 third 1;choice a");
        Edge.taken(x, "askLeaves()", x.askLeaves(), -2);
        x = new WaverTax();
        Edge.refused(x, "askLeaves() without a LAW", x.askLeaves(), 1);
    }

    private static void liar() {
        Edge.of("Promise 35", "The first person whose receipts have no row; -2.");
        String four = P + "person q plain holds a;person r plain holds a;person s mad holds a;";
        WaverTax x = Check.under(four + "paid s 5 hour 0;paid q 5 hour 0;paid r 2 hour 0");
        Edge.near("liar(): the first by numbers, not by receipts", x.liar(), 1);
        x = Check.under(four + "paid q 5 hour 0;paid p 5 hour 0");
        Edge.near("liar(): the first of all", x.liar(), 0);
        x = Check.under(four + "paid p 2 hour 0;paid p 2 hour 1;paid s 1 hour 0");
        Edge.near("liar(): the last", x.liar(), 3);
        x = Check.under(four + "paid p 2 hour 0;paid r 2 hour 0;paid s 0 hour 0");
        Edge.far("liar(): all have rows, or no receipt", x.liar(), -2);
        Edge.far("trouble()", x.trouble(), 0);
        x = Check.under(ABC + "person p plain holds a");
        Edge.far("liar(): who has no receipt is none", x.liar(), -2);
        Edge.of("Promise 35", "NONE: 1 (no LAW).");
        x = Check.under("tax root 0 third 1;choice a");
        Edge.taken(x, "liar() of no people", x.liar(), -2);
        x = new WaverTax();
        Edge.refused(x, "liar() without a LAW", x.liar(), 1);
    }
}
