/** Boundaries of Term III's INSPECTORS and of promises 36 to 39. */
final class EdgeShops {
    private static final String III = "Term III";
    private static final String A = "tax root 0 third 1;choice a";
    /** Six shops in a chain, m to r. */
    private static final String CHAIN = A + ";shop m crowd 1;shop n crowd 2;shop o crowd 4;shop p crowd 8;shop q crowd 16;shop r crowd 32;"
        + "lane m n;lane n o;lane p o;lane p q;lane r q";

    private EdgeShops() {
    }

    static void run() {
        inspectors();
        caught();
        places();
        enough();
        catches();
    }

    private static String shops(int... crowds) {
        StringBuilder text = new StringBuilder(A);
        for (int s = 0; s < crowds.length; s++) {
            text.append(";shop ").append((char) ('m' + s)).append(" crowd ").append(crowds[s]);
        }
        return text.toString();
    }

    private static void inspectors() {
        Edge.of(III, "INSPECTORS, so many: shops in which they are so that the crowds of these and of shops one lane off are greatest together");
        WaverTax x = Check.under(CHAIN);
        Edge.near("caught(1): of q, and p and r, one lane off", x.caught(1), 56);
        Edge.near("places(1)", x.places(1), 16);
        Edge.far("caught(1): o is two lanes off", x.caught(1) & 4, 0);
        Edge.near("caught(2)", x.caught(2), 63);
        Edge.near("places(2)", x.places(2), 18);
        x = Check.under(shops(5, 6, 7));
        Edge.far("caught(1) without lanes", x.caught(1), 7);
        Edge.near("caught(2) without lanes", x.caught(2), 13);
        Edge.near("places(2)", x.places(2), 6);
        x = Check.under(shops(9, 9, 9) + ";lane m n;lane n o");
        Edge.far("caught(2): a crowd that two see counts once", x.caught(2), 27);
        Edge.of(III, "of like ones the fewest, of these the least bits.");
        Edge.near("places(2) where one sees all", x.places(2), 2);
        Edge.near("places(6) where one sees all", x.places(6), 2);
        x = Check.under(shops(5, 5, 5));
        Edge.far("places(1) of like ones: the least bits", x.places(1), 1);
        Edge.far("places(2) of like ones: the least bits", x.places(2), 3);
        Edge.near("places(6): all are wanted", x.places(6), 7);
        x = Check.under(shops(5, 6, 5, 6));
        Edge.far("places(1) of like ones", x.places(1), 2);
        Edge.far("places(3) of like ones", x.places(3), 11);
        x = Check.under(shops(0, 0, 0));
        Edge.near("places(6): no crowds, nobody is wanted", x.places(6), 0);
        x = Check.under(shops(0, 0, 1));
        Edge.near("places(6): one crowd, one is wanted", x.places(6), 4);
        // one of m and n, and one of o and p
        x = Check.under(shops(7, 7, 7, 7) + ";lane m n;lane o p");
        Edge.far("places(2) of like ones", x.places(2), 5);
        // two sets see as much, the fewer has the greater bits
        x = Check.under(shops(1, 1, 1, 0) + ";lane p m;lane p n;lane p o");
        Edge.near("places(3): the fewest ahead of the least bits", x.places(3), 8);
    }

    private static void caught() {
        Edge.of("Promise 36", "INSPECTORS (0 .. 6): the crowds together.");
        WaverTax x = Check.under(shops(99, 99, 99, 99, 99, 99));
        for (int n = 0; n <= 6; n++) {
            Edge.taken(x, "caught(" + n + ")", x.caught(n), 99 * n);
        }
        Edge.refused(x, "caught(7)", x.caught(7), 2);
        Edge.refused(x, "caught(-1)", x.caught(-1), 2);
        x = Check.under(shops(5));
        Edge.taken(x, "caught(6): more than there are shops", x.caught(6), 5);
        Edge.of("Promise 36", "NONE: 1 (no LAW); 2.");
        x = Check.under(A);
        Edge.taken(x, "caught(6) without shops", x.caught(6), 0);
        WaverTax none = new WaverTax();
        for (int bad : new int[] {-1, 7, 32, Integer.MIN_VALUE, Integer.MAX_VALUE}) {
            Edge.refused(x, "caught(" + bad + ")", x.caught(bad), 2);
            Edge.refused(none, "caught(" + bad + ") without a LAW: 1 ahead of 2", none.caught(bad), 1);
        }
        Edge.refused(none, "caught(0) without a LAW", none.caught(0), 1);
    }

    private static void places() {
        Edge.of("Promise 37", "Their shops, as bits.");
        WaverTax x = Check.under(shops(1, 2, 4, 8, 16, 32));
        int[] due = {0, 32, 48, 56, 60, 62, 63};
        for (int n = 0; n <= 6; n++) {
            Edge.near("places(" + n + ")", x.places(n), due[n]);
        }
        Edge.far("places(6) without shops", Check.under(A).places(6), 0);
        Edge.of("Promise 37", "NONE: 1 (no LAW); 2.");
        Edge.taken(x, "places(0)", x.places(0), 0);
        Edge.taken(x, "places(6)", x.places(6), 63);
        WaverTax none = new WaverTax();
        for (int bad : new int[] {-1, 7, 32, Integer.MIN_VALUE, Integer.MAX_VALUE}) {
            Edge.refused(x, "places(" + bad + ")", x.places(bad), 2);
            Edge.refused(none, "places(" + bad + ") without a LAW: 1 ahead of 2", none.places(bad), 1);
        }
        Edge.refused(none, "places(0) without a LAW", none.places(0), 1);
    }

    private static void enough() {
        Edge.of("Promise 38", "The fewest of them by whom all crowds are caught.");
        Edge.near("enough() of six without lanes", Check.under(shops(1, 1, 1, 1, 1, 1)).enough(), 6);
        Edge.near("enough() of a chain of six", Check.under(CHAIN).enough(), 2);
        WaverTax x = Check.under(CHAIN);
        Edge.far("caught(1) is less than all", x.caught(1) < 63, true);
        Edge.near("caught(2) is all", x.caught(2), 63);
        Edge.near("enough() of a star", Check.under(shops(1, 1, 1, 1) + ";lane m n;lane m o;lane m p").enough(), 1);
        Edge.near("enough() of two", Check.under(shops(1, 1)).enough(), 2);
        Edge.near("enough() of two and a lane", Check.under(shops(1, 1) + ";lane m n").enough(), 1);
        Edge.far("enough() without shops", Check.under(A).enough(), 0);
        Edge.far("enough(): crowds of 0 are caught by none", Check.under(shops(0, 0)).enough(), 0);
        Edge.near("enough(): a crowd of 1 is not", Check.under(shops(0, 1)).enough(), 1);
        Edge.of("Promise 38", "NONE: 1 (no LAW).");
        x = Check.under(A);
        Edge.taken(x, "enough()", x.enough(), 0);
        x = new WaverTax();
        Edge.refused(x, "enough() without a LAW", x.enough(), 1);
    }

    private static void catches() {
        Edge.of("Promise 39", "What one in a shop alone catches.");
        WaverTax x = Check.under(CHAIN);
        int[] due = {3, 7, 14, 28, 56, 48};
        for (int s = 0; s < 6; s++) {
            Edge.near("catches(" + s + "): it and those one lane off", x.catches(s), due[s]);
        }
        Edge.far("catches(0) without lanes", Check.under(shops(5, 6)).catches(0), 5);
        Edge.far("catches(0) of a crowd of 0", Check.under(shops(0, 6)).catches(0), 0);
        Edge.of("Promise 39", "NONE: 1.");
        Edge.taken(x, "catches(0)", x.catches(0), 3);
        Edge.taken(x, "catches(5)", x.catches(5), 48);
        for (int bad : new int[] {-1, 6, 7, 32, Integer.MIN_VALUE, Integer.MAX_VALUE}) {
            Edge.refused(x, "catches(" + bad + ")", x.catches(bad), 1);
        }
        x = Check.under(shops(5));
        Edge.taken(x, "catches(0) of one", x.catches(0), 5);
        Edge.refused(x, "catches(1) of one", x.catches(1), 1);
        x = Check.under(A);
        Edge.refused(x, "catches(0) of none", x.catches(0), 1);
        x = new WaverTax();
        Edge.refused(x, "catches(0) without a LAW", x.catches(0), 1);
    }
}
