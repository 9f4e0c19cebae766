/** Boundaries of Term III's RAISED, TABLE and HARM and of promises 21 to 28. */
final class EdgeTables {
    private static final String III = "Term III";
    private static final String ONE = "tax root 0 third 1;choice a;choice b;choice c;far a b by 5;far a c by 2;person p plain holds a;";

    private EdgeTables() {
    }

    static void run() {
        raised();
        table();
        harm();
        bestTable();
        thirds();
        stillTable();
    }

    private static void raised() {
        Edge.of(III, "RAISED: TAX of all who CHOOSE another one.");
        Edge.near("raised(): 6 is above 5", Check.under(ONE + "likes p b worth 6").raised(), 5);
        Edge.far("raised(): 5 is not above 5", Check.under(ONE + "likes p b worth 5").raised(), 0);
        Edge.near("raised() of two", Check.under(ONE + "person q proud holds a;likes p b worth 6;likes q c worth 5").raised(), 5 + 4);
        Edge.far("raised(): the mad pay none", Check.under(ONE + "person q mad holds a;likes q b worth 6").raised(), 0);
        Edge.of("Promise 21", "RAISED.");
        WaverTax x = Check.under(ONE + "likes p b worth 6");
        Edge.near("raised()", x.raised(), 5);
        x.change(0, 1);
        Edge.far("raised(): what was paid is not raised again", x.raised(), 0);
        Edge.of("Promise 21", "NONE: 1 (no LAW).");
        refusedWithout("raised()", 0);
        Edge.of("Promise 22", "NONE: 1 (no LAW).");
        refusedWithout("harm()", 1);
    }

    /** A law of no people answers, no LAW is refused. */
    private static void refusedWithout(String call, int which) {
        WaverTax x = Check.under("tax root 0 third 1;choice a");
        int answer = ask(x, which);
        Edge.taken(x, call + " of no people", answer, 0);
        x = new WaverTax();
        answer = ask(x, which);
        Edge.refused(x, call + " without a LAW", answer, 1);
    }

    private static int ask(WaverTax x, int which) {
        switch (which) {
            case 0:
                return x.raised();
            case 1:
                return x.harm();
            case 2:
                return x.bestTable();
            default:
                return x.stillTable();
        }
    }

    private static void table() {
        Edge.of(III, "TABLE: as if all choices were so far apart.");
        WaverTax x = Check.under(ONE + "likes p b worth 6;likes p c worth 4");
        // by the law b and c leave 1 and 2, by a TABLE b is better
        Edge.far("raised() by the law", x.raised(), 2);
        for (int far = 0; far <= 9; far++) {
            Edge.near("raisedBy(" + far + ")", x.raisedBy(far), far < 6 ? far : 0);
        }
        Edge.far("raised(): the law stays", x.raised(), 2);
        x.change(0, 1);
        Edge.near("raisedBy(0): b is best, and held", x.raisedBy(0), 0);
        Edge.of("Promise 23", "RAISED by a TABLE (0 .. 9).");
        x = Check.under(ONE + "likes p b worth 10");
        Edge.taken(x, "raisedBy(0)", x.raisedBy(0), 0);
        Edge.taken(x, "raisedBy(9)", x.raisedBy(9), 9);
        Edge.refused(x, "raisedBy(-1)", x.raisedBy(-1), 2);
        Edge.refused(x, "raisedBy(10)", x.raisedBy(10), 2);
        Edge.of("Promise 23", "NONE: 1 (no LAW); 2.");
        Edge.taken(x, "raisedBy(9)", x.raisedBy(9), 9);
        Edge.refused(x, "raisedBy(least)", x.raisedBy(Integer.MIN_VALUE), 2);
        Edge.refused(x, "raisedBy(most)", x.raisedBy(Integer.MAX_VALUE), 2);
        WaverTax none = new WaverTax();
        Edge.refused(none, "raisedBy(0) without a LAW", none.raisedBy(0), 1);
        Edge.refused(none, "raisedBy(10) without a LAW: 1 ahead of 2", none.raisedBy(10), 1);
        Edge.of("Promise 24", "HARM by it.");
        Edge.near("harmBy(0)", x.harmBy(0), 0);
        Edge.near("harmBy(9): he pays 9", x.harmBy(9), 9);
        x = Check.under(ONE + "likes p b worth 8");
        Edge.far("harmBy(8): he stays, and misses 8", x.harmBy(8), 8);
        Edge.far("harmBy(9): he stays, and misses 8", x.harmBy(9), 8);
        Edge.of("Promise 24", "NONE: 1 (no LAW); 2.");
        Edge.taken(x, "harmBy(0)", x.harmBy(0), 0);
        Edge.taken(x, "harmBy(9)", x.harmBy(9), 8);
        for (int bad : new int[] {-1, 10, Integer.MIN_VALUE, Integer.MAX_VALUE}) {
            Edge.refused(x, "harmBy(" + bad + ")", x.harmBy(bad), 2);
        }
        Edge.refused(none, "harmBy(0) without a LAW", none.harmBy(0), 1);
        Edge.refused(none, "harmBy(-1) without a LAW: 1 ahead of 2", none.harmBy(-1), 1);
    }

    private static void harm() {
        Edge.of(III, "HARM: by how much people have less by what they CHOOSE (its WORTH less TAX) than the greatest WORTH of any, together.");
        Edge.far("harm(): he holds the best", Check.under(ONE + "likes p a worth 9;likes p b worth 9").harm(), 0);
        Edge.near("harm(): he stays, and misses 1", Check.under(ONE + "likes p a worth 8;likes p b worth 9").harm(), 1);
        Edge.near("harm(): he stays, and misses 5", Check.under(ONE + "likes p a worth 4;likes p b worth 9").harm(), 5);
        Edge.near("harm(): he changes, and pays 5", Check.under(ONE + "likes p a worth 3;likes p b worth 9").harm(), 5);
        Edge.near("harm(): he changes to the second best", Check.under(ONE + "likes p b worth 9;likes p c worth 8").harm(), 3);
        Edge.near("harm() of two", Check.under(ONE + "person q mad holds a;person r plain holds c;likes p b worth 9;"
            + "likes q b worth 9;likes r a worth 1").harm(), 5 + 0 + 1);
        Edge.far("harm(): nothing is worth anything", Check.under(ONE + "likes p b worth 0").harm(), 0);
        Edge.ofOne("Promise 22", "HARM.");
        Edge.near("harm()", Check.under(ONE + "likes p a worth 8;likes p b worth 9").harm(), 1);
    }

    private static void bestTable() {
        Edge.of("Promise 25", "The TABLE by which most is RAISED, of like ones that of least HARM, of these the least.");
        for (int gain = 2; gain <= 10; gain++) {
            Edge.near("bestTable() of one who gains " + gain, Check.under(ONE + "likes p b worth " + gain).bestTable(), gain - 1);
        }
        Edge.near("bestTable(): 9 is the last", Check.under(ONE + "likes p b worth 99").bestTable(), 9);
        WaverTax x = Check.under(ONE + "person q proud holds a;likes q b worth 5;likes p b worth 7");
        Edge.far("raisedBy(2): 4 and 2", x.raisedBy(2), 6);
        Edge.far("raisedBy(6)", x.raisedBy(6), 6);
        Edge.far("harmBy(2)", x.harmBy(2), 6);
        Edge.far("harmBy(6)", x.harmBy(6), 11);
        Edge.far("bestTable() of like ones: least HARM", x.bestTable(), 2);
        x = Check.under(ONE + "likes p b worth 1");
        Edge.far("bestTable(): all raise nothing, HARM 0 by 0 alone", x.bestTable(), 0);
        x = Check.under(ONE + "likes p a worth 9");
        Edge.far("bestTable(): all alike, the least", x.bestTable(), 0);
        // by root, a TABLE of 1 costs 2, and home the half of it
        x = Check.under("tax root 9 third 1;choice a;choice b;person p plain holds a;likes p a worth 9;likes p b worth 1");
        x.change(0, 1);
        Edge.near("bestTable(): home for half of twice 7", x.bestTable(), 7);
        alikeByHalf();
        Edge.of("Promise 25", "NONE: 1 (no LAW).");
        refusedWithout("bestTable()", 2);
    }

    /** HARM grows with the TABLE, but half of it, downwards, leaves two alike. */
    private static void alikeByHalf() {
        WaverTax x = Check.under("tax root 0 third 1;choice a;choice b;person p plain holds a;likes p a worth 2;person q mad holds a");
        x.change(0, 1);
        // home costs half: TABLE 0 and 1 none, 2 and 3 one, from 4 on he stays
        int[] raised = {0, 0, 1, 1, 0, 0, 0, 0, 0, 0};
        for (int far = 0; far <= 9; far++) {
            Edge.far("raisedBy(" + far + ")", x.raisedBy(far), raised[far]);
        }
        Edge.far("harmBy(2) is harmBy(3)", x.harmBy(2), x.harmBy(3));
        Edge.far("bestTable() of like ones, the least", x.bestTable(), 2);
    }

    private static void thirds() {
        Edge.of("Promise 26", "RAISED, were third another one (1 .. 4).");
        WaverTax x = Check.under("tax root 0 third 2;choice a;choice b;choice c;far a c by 4;person p plain holds b;likes p c worth 13");
        Edge.far("raisedThird(1) of a first change", x.raisedThird(1), 1);
        Edge.far("raisedThird(4) of a first change", x.raisedThird(4), 1);
        x.change(0, 2);
        x.change(0, 0);
        Edge.taken(x, "raisedThird(1)", x.raisedThird(1), 4);
        Edge.taken(x, "raisedThird(2)", x.raisedThird(2), 8);
        Edge.taken(x, "raisedThird(3)", x.raisedThird(3), 12);
        Edge.taken(x, "raisedThird(4): 16 is above 13", x.raisedThird(4), 0);
        Edge.near("raised() by the law", x.raised(), 8);
        Edge.near("size(1): the law stays", x.size(1), 2);
        Edge.refused(x, "raisedThird(0)", x.raisedThird(0), 2);
        Edge.refused(x, "raisedThird(5)", x.raisedThird(5), 2);
        Edge.of("Promise 26", "NONE: 1 (no LAW); 2.");
        Edge.taken(x, "raisedThird(4)", x.raisedThird(4), 0);
        WaverTax none = new WaverTax();
        for (int bad : new int[] {-1, 0, 5, Integer.MIN_VALUE, Integer.MAX_VALUE}) {
            Edge.refused(x, "raisedThird(" + bad + ")", x.raisedThird(bad), 2);
            Edge.refused(none, "raisedThird(" + bad + ") without a LAW: 1 ahead of 2", none.raisedThird(bad), 1);
        }
        Edge.refused(none, "raisedThird(1) without a LAW", none.raisedThird(1), 1);
        Edge.of("Promise 27", "HARM, were it.");
        Edge.near("harmThird(1)", x.harmThird(1), 4);
        Edge.near("harmThird(3)", x.harmThird(3), 12);
        Edge.far("harmThird(4): he stays, and misses 13", x.harmThird(4), 13);
        Edge.near("harm() by the law", x.harm(), 8);
        Edge.of("Promise 27", "NONE: 1 (no LAW); 2.");
        Edge.taken(x, "harmThird(1)", x.harmThird(1), 4);
        Edge.taken(x, "harmThird(4)", x.harmThird(4), 13);
        for (int bad : new int[] {-1, 0, 5, Integer.MIN_VALUE, Integer.MAX_VALUE}) {
            Edge.refused(x, "harmThird(" + bad + ")", x.harmThird(bad), 2);
            Edge.refused(none, "harmThird(" + bad + ") without a LAW: 1 ahead of 2", none.harmThird(bad), 1);
        }
        Edge.refused(none, "harmThird(1) without a LAW", none.harmThird(1), 1);
    }

    private static void stillTable() {
        Edge.of("Promise 28", "The least TABLE (0 .. 9) by which nobody CHOOSES another one");
        for (int gain = 0; gain <= 9; gain++) {
            Edge.near("stillTable() of one who gains " + gain, Check.under(ONE + "likes p b worth " + gain).stillTable(), gain);
        }
        Edge.far("stillTable() of one who gains 10", Check.under(ONE + "likes p b worth 10").stillTable(), -2);
        String proud = "tax root 0 third 1;choice a;choice b;person p proud holds a;";
        Edge.near("stillTable() of a proud one who gains 18", Check.under(proud + "likes p b worth 18").stillTable(), 9);
        Edge.far("stillTable() of a proud one who gains 19", Check.under(proud + "likes p b worth 19").stillTable(), -2);
        Edge.near("stillTable() of two", Check.under(ONE + "person q plain holds a;likes p b worth 3;likes q c worth 7").stillTable(), 7);
        Edge.of("Promise 28", "-2 none.");
        WaverTax x = Check.under(ONE + "person m mad holds a;likes m b worth 1");
        Edge.taken(x, "stillTable(): the mad one wavers by all", x.stillTable(), -2);
        x.change(1, 1);
        Edge.far("stillTable(): he holds it", x.stillTable(), 0);
        Edge.of("Promise 28", "NONE: 1 (no LAW).");
        refusedWithout("stillTable()", 3);
    }
}
