/** Boundaries of Term II and of promises 6 to 16: tax, worth and choosing, and how all stands now. */
final class EdgeNow {
    private static final String II = "Term II";
    private static final int[] NOT_FIVE = {-1, 5, 6, 31, 32, Integer.MIN_VALUE, Integer.MAX_VALUE};
    /** Five choices, five people, four reasons: as many as there may be. */
    private static final String FULL = "tax root 2 third 3;choice a;choice b;choice c;choice d;choice e;"
        + "far a b by 5;far b c by 7;far a e by 9;far d c by 9;person l plain holds a;person m mad holds a;"
        + "person n child holds a;person o proud holds a;person p plain holds e;likes p e worth 99;likes l b worth 20;"
        + "reason l a at 1 odds 100 more 1;reason l b at 1 odds 0 more 9;reason l a at 2 odds 100 more 4;"
        + "reason p a at 2 odds 100 more 50";
    private static final String TWO = "tax root 2 third 3;choice a;choice b;person p plain holds a";

    private EdgeNow() {
    }

    static void run() {
        howFar();
        soon();
        third();
        home();
        sorts();
        worths();
        choosing();
        person();
        far();
        worth();
        tax();
        chooses();
        waverers();
        holders();
        fashion();
        came();
        paid();
        farthest();
    }

    private static String root(int root, int third) {
        return "tax root " + root + " third " + third + ";choice a;choice b;choice c;far a b by 5;far b c by 7;far a c by 4;"
            + "person p plain holds a;person q proud holds a";
    }

    private static void howFar() {
        Edge.of(II, "TAX of a change of one from the CHOICE he holds to another one at an hour: how far they are");
        WaverTax x = Check.under(FULL);
        Edge.near("tax(0, 4), told by 9", x.tax(0, 4), 9);
        Edge.near("tax(0, 3), not told", x.tax(0, 3), 1);
        Edge.far("tax(0, 0), no other one", x.tax(0, 0), 0);
        x.change(0, 1);
        x.hours(2);
        Edge.near("tax(0, 2) is from what he holds NOW", x.tax(0, 2), 7);
    }

    private static void soon() {
        Edge.of(II, "twice that, if he changed less than root hours ago");
        for (int root = 1; root <= 9; root++) {
            WaverTax x = Check.under(root(root, 1));
            Edge.far("tax(0, 1), never changed", x.tax(0, 1), 5);
            x.change(0, 1);
            Edge.near("tax(0, 2), 0 hours ago by root " + root, x.tax(0, 2), 14);
            for (int ago = 1; ago < root; ago++) {
                x.hours(1);
                Edge.near("tax(0, 2), " + ago + " hours ago by root " + root, x.tax(0, 2), 14);
            }
            x.hours(1);
            Edge.far("tax(0, 2), " + root + " hours ago by root " + root, x.tax(0, 2), 7);
            x.hours(1);
            Edge.far("tax(0, 2), later", x.tax(0, 2), 7);
            Edge.far("tax(1, 1) of one who never changed", x.tax(1, 1), 10);
        }
        WaverTax x = Check.under(root(0, 1));
        x.change(0, 1);
        Edge.far("tax(0, 2), 0 hours ago by root 0", x.tax(0, 2), 7);
        x = Check.under(root(9, 1));
        x.change(0, 1);
        x.undo();
        Edge.far("tax(0, 1), the change undone", x.tax(0, 1), 5);
    }

    private static void third() {
        Edge.of(II, "third times that, if it is his third change or a later one");
        for (int third = 1; third <= 4; third++) {
            WaverTax x = Check.under(root(0, third));
            Edge.far("tax(0, 1), his first", x.tax(0, 1), 5);
            x.change(0, 1);
            Edge.far("tax(0, 2), his second", x.tax(0, 2), 7);
            x.change(0, 2);
            Edge.near("tax(0, 1), his third by " + third, x.tax(0, 1), 7 * third);
            Edge.far("tax(1, 1), another one's first", x.tax(1, 1), 10);
            x.change(0, 1);
            Edge.near("tax(0, 2), his fourth", x.tax(0, 2), 7 * third);
            x.change(0, 2);
            Edge.near("tax(0, 1), his fifth", x.tax(0, 1), 7 * third);
            x.undo();
            x.undo();
            x.undo();
            Edge.far("tax(0, 2), his second again", x.tax(0, 2), 7);
        }
        WaverTax x = Check.under(root(9, 4));
        x.change(0, 1);
        x.change(0, 2);
        Edge.near("tax(0, 1), soon and his third", x.tax(0, 1), 7 * 2 * 4);
    }

    private static void home() {
        Edge.of(II, "then half of it (downwards), if it is to the CHOICE he held first (as told)");
        WaverTax x = Check.under(root(0, 3));
        Edge.far("tax(0, 1), not home", x.tax(0, 1), 5);
        x.change(0, 1);
        Edge.near("tax(0, 0), half of 5", x.tax(0, 0), 2);
        Edge.far("tax(0, 2), not home", x.tax(0, 2), 7);
        x.change(0, 2);
        Edge.near("tax(0, 0), half of 3 times 4", x.tax(0, 0), 6);
        Edge.far("tax(0, 1), which he held, but not first", x.tax(0, 1), 21);
        x.change(0, 1);
        Edge.near("tax(0, 0), half of 3 times 5", x.tax(0, 0), 7);
        x.change(0, 0);
        Edge.far("tax(0, 1) from home", x.tax(0, 1), 15);
        x = Check.under(root(9, 3));
        x.change(0, 1);
        Edge.near("tax(0, 0), soon: half of twice 5, no less", x.tax(0, 0), 5);
        x = Check.under("tax root 0 third 1;choice a;choice b;person p plain holds b");
        Edge.far("tax(0, 0): the first CHOICE is not the one he held first", x.tax(0, 0), 1);
        x.change(0, 0);
        Edge.near("tax(0, 1), half of 1", x.tax(0, 1), 0);
    }

    private static void sorts() {
        Edge.of(II, "The mad, children pay none.");
        WaverTax x = Check.under(FULL);
        Edge.far("tax(0, 1) of a plain one", x.tax(0, 1), 5);
        Edge.far("tax(3, 1) of a proud one", x.tax(3, 1), 10);
        for (int p = 1; p <= 2; p++) {
            Edge.near("tax(p, 1)", x.tax(p, 1), 0);
            Edge.near("change(p, 1)", x.change(p, 1), 0);
            Edge.near("change(p, 2), soon", x.change(p, 2), 0);
            Edge.near("change(p, 3), his third", x.change(p, 3), 0);
            Edge.near("tax(p, 0), home", x.tax(p, 0), 0);
            Edge.near("person(p, 4)", x.person(p, 4), 0);
        }
        Edge.of(II, "A proud one pays twice as much (behind all that).");
        x = Check.under(root(0, 3));
        Edge.near("tax(1, 1)", x.tax(1, 1), 10);
        x.change(1, 1);
        Edge.near("tax(1, 0): half of 5 downwards, then twice", x.tax(1, 0), 4);
        x.change(1, 2);
        Edge.near("tax(1, 1), his third", x.tax(1, 1), 42);
        x = Check.under(root(1, 1));
        x.change(0, 1);
        x.change(1, 1);
        Edge.far("tax(0, 2) of a plain one, soon", x.tax(0, 2), 14);
        Edge.near("tax(1, 2) of a proud one, soon", x.tax(1, 2), 28);
    }

    private static void worths() {
        Edge.of(II, "WORTH of a CHOICE to one: as told, and more by each reason of his for it that came.");
        WaverTax x = Check.under(FULL);
        Edge.near("worth(4, 4) as told", x.worth(4, 4), 99);
        Edge.far("worth(0, 0), nothing came yet", x.worth(0, 0), 0);
        x.hours(1);
        Edge.near("worth(0, 0), one came", x.worth(0, 0), 1);
        Edge.far("worth(0, 1): the one for it did not come", x.worth(0, 1), 20);
        Edge.far("worth(4, 0): the one that came is not his", x.worth(4, 0), 0);
        Edge.far("worth(1, 0): nor this one's", x.worth(1, 0), 0);
        x.hours(1);
        Edge.near("worth(0, 0), two came", x.worth(0, 0), 5);
        Edge.near("worth(4, 0), his came", x.worth(4, 0), 50);
        Edge.far("worth(4, 4): it is for another one", x.worth(4, 4), 99);
        x = Check.under(TWO + ";likes p a worth 99;reason p a at 1 odds 100 more 50;reason p a at 1 odds 100 more 50;"
            + "reason p a at 1 odds 100 more 50;reason p a at 1 odds 100 more 50");
        x.hours(1);
        Edge.near("worth(0, 0), as much as can be", x.worth(0, 0), 299);
    }

    private static void choosing() {
        Edge.of(II, "CHOOSES: the CHOICE by which its WORTH less the TAX of the change to it NOW (none for that he holds) is greatest");
        Edge.far("chooses(0): 6 less 1 is not above 5", chooses("likes p a worth 5;likes p b worth 6"), 0);
        Edge.near("chooses(0): 7 less 1 is above 5", chooses("likes p a worth 5;likes p b worth 7"), 1);
        Edge.far("chooses(0): all below that he holds", chooses("likes p a worth 1"), 0);
        Edge.near("chooses(0): the greatest of three", chooses("choice c;likes p b worth 5;likes p c worth 6"), 2);
        Edge.near("chooses(0): not the worthiest, if it is far", chooses("choice c;far a c by 3;likes p b worth 5;likes p c worth 6"), 1);
        WaverTax x = Check.under(TWO + ";choice c;likes p b worth 1;likes p c worth 3");
        x.change(0, 1);
        Edge.far("chooses(0): TAX NOW is twice", x.chooses(0), 1);
        x.hours(2);
        Edge.near("chooses(0): TAX NOW is once", x.chooses(0), 2);
        Edge.of(II, "of like ones that he holds, else the first.");
        Edge.near("chooses(0): all alike", chooses("choice c"), 0);
        x = Check.under("tax root 0 third 1;choice a;choice b;choice c;person p mad holds c;likes p a worth 5;likes p b worth 5;likes p c worth 5");
        Edge.near("chooses(0): all alike, that he holds", x.chooses(0), 2);
        x.change(0, 1);
        Edge.near("chooses(0): all alike, that he holds", x.chooses(0), 1);
        x = Check.under("tax root 0 third 1;choice a;choice b;choice c;person p mad holds c;likes p a worth 5;likes p b worth 5;likes p c worth 4");
        Edge.far("chooses(0): that he holds is none of them", x.chooses(0), 0);
        x = Check.under("tax root 0 third 1;choice a;choice b;choice c;person p mad holds a;likes p b worth 5;likes p c worth 5");
        Edge.far("chooses(0): the first of them", x.chooses(0), 1);
        x = Check.under("tax root 0 third 1;choice a;choice b;choice c;person p mad holds a;likes p b worth 5;likes p c worth 6");
        Edge.far("chooses(0): they aren't alike", x.chooses(0), 2);
    }

    private static int chooses(String lines) {
        return Check.under(TWO + ";" + lines).chooses(0);
    }

    private static void person() {
        Edge.of("Promise 6", "Of a person 0 SORT (0 plain, 1 mad, 2 child, 3 proud), 1 the CHOICE held first, 2 that held NOW, "
            + "3 how many changes, 4 what he paid, 5 the hour of his latest change (-2).");
        WaverTax x = Check.under(FULL);
        int[] sorts = {0, 1, 2, 3, 0};
        int[] held = {0, 0, 0, 0, 4};
        for (int p = 0; p < 5; p++) {
            int[] due = {sorts[p], held[p], held[p], 0, 0, -2};
            for (int what = 0; what <= 5; what++) {
                Edge.taken(x, "person(" + p + ", " + what + ")", x.person(p, what), due[what]);
            }
        }
        x.change(4, 0);
        int[] atOnce = {0, 4, 0, 1, 9, 0};
        for (int what = 0; what <= 5; what++) {
            Edge.far("person(4, " + what + ") behind a change at hour 0", x.person(4, what), atOnce[what]);
        }
        x.hours(3);
        x.change(4, 4);
        int[] home = {0, 4, 4, 2, 13, 3};
        for (int what = 0; what <= 5; what++) {
            Edge.far("person(4, " + what + ") behind a change home at hour 3", x.person(4, what), home[what]);
        }
        x.hours(1);
        Edge.far("person(4, 5) an hour later", x.person(4, 5), 3);
        Edge.near("person(0, 5) of one who never changed", x.person(0, 5), -2);
        x.undo();
        x.undo();
        Edge.far("person(4, 5), the latest change undone", x.person(4, 5), 0);
        x.undo();
        x.undo();
        Edge.near("person(4, 5), all changes undone", x.person(4, 5), -2);
        Edge.of("Promise 6", "NONE: 1.");
        Edge.taken(x, "person(4, 5), the last of all", x.person(4, 5), -2);
        Edge.taken(x, "person(0, 0)", x.person(0, 0), 0);
        for (int bad : NOT_FIVE) {
            Edge.refused(x, "person(" + bad + ", 0)", x.person(bad, 0), 1);
        }
        for (int bad : new int[] {-1, 6, 7, Integer.MIN_VALUE, Integer.MAX_VALUE}) {
            Edge.refused(x, "person(0, " + bad + ")", x.person(0, bad), 1);
        }
        x = Check.under(TWO);
        Edge.taken(x, "person(0, 0) of one", x.person(0, 0), 0);
        Edge.refused(x, "person(1, 0) of one", x.person(1, 0), 1);
        x = new WaverTax();
        Edge.refused(x, "person(0, 0) without a LAW", x.person(0, 0), 1);
    }

    private static void far() {
        Edge.of("Promise 7", "How far two choices are (0 itself).");
        WaverTax x = Check.under(FULL);
        for (int c = 0; c < 5; c++) {
            Edge.far("far of itself", x.far(c, c), 0);
        }
        Edge.near("far(0, 4)", x.far(0, 4), 9);
        Edge.near("far(4, 0)", x.far(4, 0), 9);
        Edge.near("far(3, 4), not told", x.far(3, 4), 1);
        Edge.of("Promise 7", "NONE: 1.");
        Edge.taken(x, "far(4, 4)", x.far(4, 4), 0);
        for (int bad : NOT_FIVE) {
            Edge.refused(x, "far(" + bad + ", 0)", x.far(bad, 0), 1);
            Edge.refused(x, "far(0, " + bad + ")", x.far(0, bad), 1);
            Edge.refused(x, "far of itself", x.far(bad, bad), 1);
        }
        x = Check.under(TWO);
        Edge.taken(x, "far(0, 1) of two", x.far(0, 1), 1);
        Edge.refused(x, "far(0, 2) of two", x.far(0, 2), 1);
        x = new WaverTax();
        Edge.refused(x, "far(0, 0) without a LAW", x.far(0, 0), 1);
    }

    private static void worth() {
        Edge.ofOne("Promise 8", "WORTH.");
        WaverTax x = Check.under(FULL);
        Edge.near("worth(0, 1)", x.worth(0, 1), 20);
        Edge.of("Promise 8", "NONE: 1.");
        Edge.taken(x, "worth(4, 4)", x.worth(4, 4), 99);
        Edge.taken(x, "worth(0, 0)", x.worth(0, 0), 0);
        for (int bad : NOT_FIVE) {
            Edge.refused(x, "worth(" + bad + ", 0)", x.worth(bad, 0), 1);
            Edge.refused(x, "worth(0, " + bad + ")", x.worth(0, bad), 1);
        }
        x = Check.under(TWO);
        Edge.taken(x, "worth(0, 1)", x.worth(0, 1), 0);
        Edge.refused(x, "worth(1, 1)", x.worth(1, 1), 1);
        Edge.refused(x, "worth(0, 2)", x.worth(0, 2), 1);
        x = new WaverTax();
        Edge.refused(x, "worth(0, 0) without a LAW", x.worth(0, 0), 1);
    }

    private static void tax() {
        Edge.of("Promise 9", "TAX of a change NOW (0 to that held).");
        WaverTax x = Check.under(FULL);
        Edge.near("tax(4, 0)", x.tax(4, 0), 9);
        Edge.far("tax(4, 4)", x.tax(4, 4), 0);
        x.change(4, 0);
        Edge.far("tax(4, 0), held NOW", x.tax(4, 0), 0);
        Edge.near("tax(4, 4), no longer held: soon, home", x.tax(4, 4), 9);
        Edge.near("person(4, 2): nothing is changed by asking", x.person(4, 2), 0);
        Edge.of("Promise 9", "NONE: 1.");
        Edge.taken(x, "tax(0, 4)", x.tax(0, 4), 9);
        for (int bad : NOT_FIVE) {
            Edge.refused(x, "tax(" + bad + ", 0)", x.tax(bad, 0), 1);
            Edge.refused(x, "tax(0, " + bad + ")", x.tax(0, bad), 1);
            Edge.refused(x, "tax of a mad one", x.tax(1, bad), 1);
        }
        x = Check.under(TWO);
        Edge.taken(x, "tax(0, 1)", x.tax(0, 1), 1);
        Edge.refused(x, "tax(1, 1)", x.tax(1, 1), 1);
        Edge.refused(x, "tax(0, 2)", x.tax(0, 2), 1);
        x = new WaverTax();
        Edge.refused(x, "tax(0, 0) without a LAW", x.tax(0, 0), 1);
    }

    private static void chooses() {
        Edge.ofOne("Promise 10", "CHOOSES.");
        WaverTax x = Check.under(FULL);
        Edge.near("chooses(0)", x.chooses(0), 1);
        Edge.near("person(0, 2): nothing is changed by asking", x.person(0, 2), 0);
        Edge.of("Promise 10", "NONE: 1.");
        Edge.taken(x, "chooses(4)", x.chooses(4), 4);
        for (int bad : NOT_FIVE) {
            Edge.refused(x, "chooses(" + bad + ")", x.chooses(bad), 1);
        }
        x = Check.under(TWO);
        Edge.taken(x, "chooses(0)", x.chooses(0), 0);
        Edge.refused(x, "chooses(1)", x.chooses(1), 1);
        x = new WaverTax();
        Edge.refused(x, "chooses(0) without a LAW", x.chooses(0), 1);
    }

    private static void waverers() {
        Edge.of("Promise 11", "Who CHOOSES another one, as bits.");
        String five = "tax root 0 third 1;choice a;choice b";
        for (int p = 0; p < 5; p++) {
            five += ";person " + (char) ('p' + p) + " plain holds a";
        }
        Edge.far("waverers(): nobody", Check.under(five).waverers(), 0);
        Edge.near("waverers(): the first", Check.under(five + ";likes p b worth 2").waverers(), 1);
        Edge.near("waverers(): the fifth", Check.under(five + ";likes t b worth 2").waverers(), 16);
        Edge.far("waverers(): like ones", Check.under(five + ";likes t b worth 1").waverers(), 0);
        Edge.near("waverers(): all", Check.under(five + ";likes p b worth 2;likes q b worth 2;likes r b worth 2;"
            + "likes s b worth 2;likes t b worth 2").waverers(), 31);
        Edge.of("Promise 11", "NONE: 1 (no LAW).");
        WaverTax x = new WaverTax();
        Edge.refused(x, "waverers() without a LAW", x.waverers(), 1);
        x = Check.under("tax root 0 third 1;choice a");
        Edge.taken(x, "waverers() of no people", x.waverers(), 0);
    }

    private static void holders() {
        Edge.of("Promise 12", "Who holds a CHOICE, as bits.");
        WaverTax x = Check.under(FULL);
        Edge.near("holders(0)", x.holders(0), 15);
        Edge.near("holders(4), the fifth", x.holders(4), 16);
        Edge.far("holders(1), nobody", x.holders(1), 0);
        x.change(0, 4);
        Edge.near("holders(4) NOW", x.holders(4), 17);
        Edge.of("Promise 12", "NONE: 1.");
        Edge.taken(x, "holders(4)", x.holders(4), 17);
        for (int bad : NOT_FIVE) {
            Edge.refused(x, "holders(" + bad + ")", x.holders(bad), 1);
        }
        x = Check.under(TWO);
        Edge.taken(x, "holders(1) of two choices", x.holders(1), 0);
        Edge.refused(x, "holders(2) of two choices", x.holders(2), 1);
        x = new WaverTax();
        Edge.refused(x, "holders(0) without a LAW", x.holders(0), 1);
    }

    private static void fashion() {
        Edge.of("Promise 13", "The CHOICE that most hold, the first such.");
        WaverTax x = Check.under("tax root 0 third 1;choice a;choice b;choice c;person p mad holds b;person q mad holds c;"
            + "person r mad holds c;person s mad holds a");
        Edge.near("fashion(): one has most", x.fashion(), 2);
        x.change(0, 0);
        Edge.far("fashion(): two have as many", x.fashion(), 0);
        x.change(3, 1);
        x.change(0, 1);
        Edge.far("fashion(): two others have as many", x.fashion(), 1);
        x.change(3, 2);
        Edge.near("fashion(): one has most", x.fashion(), 2);
        x = Check.under("tax root 0 third 1;choice a;choice b");
        Edge.far("fashion() of no people", x.fashion(), 0);
        Edge.of("Promise 13", "NONE: 1 (no LAW).");
        Edge.taken(x, "fashion() of no people", x.fashion(), 0);
        x = new WaverTax();
        Edge.refused(x, "fashion() without a LAW", x.fashion(), 1);
    }

    private static void came() {
        Edge.of("Promise 14", "1 if a reason came, else 0.");
        WaverTax x = Check.under(FULL);
        Edge.far("came(0) ahead of its hour", x.came(0), 0);
        x.hours(1);
        Edge.near("came(0) at its hour", x.came(0), 1);
        Edge.far("came(1) of odds 0", x.came(1), 0);
        Edge.far("came(2) an hour ahead", x.came(2), 0);
        x.hours(1);
        Edge.near("came(0) an hour later", x.came(0), 1);
        Edge.near("came(2)", x.came(2), 1);
        x.undo();
        Edge.far("came(2), the hour undone", x.came(2), 0);
        Edge.of("Promise 14", "NONE: 1.");
        Edge.taken(x, "came(3), the last", x.came(3), 0);
        Edge.taken(x, "came(0)", x.came(0), 1);
        for (int bad : new int[] {-1, 4, 32, Integer.MIN_VALUE, Integer.MAX_VALUE}) {
            Edge.refused(x, "came(" + bad + ")", x.came(bad), 1);
        }
        x = Check.under(TWO);
        Edge.refused(x, "came(0) without reasons", x.came(0), 1);
        x = Check.under(TWO + ";reason p a at 1 odds 1 more 1");
        Edge.taken(x, "came(0) of one", x.came(0), 0);
        Edge.refused(x, "came(1) of one", x.came(1), 1);
        x = new WaverTax();
        Edge.refused(x, "came(0) without a LAW", x.came(0), 1);
    }

    private static void paid() {
        Edge.of("Promise 15", "All that was paid.");
        WaverTax x = Check.under(FULL + ";paid l 77 hour 0");
        Edge.far("paid() ahead of all changes", x.paid(), 0);
        x.change(0, 1);
        x.change(3, 1);
        x.change(1, 1);
        Edge.near("paid(): 5 and twice 5 and none", x.paid(), 15);
        x.change(4, 0);
        Edge.near("paid() of the fifth too", x.paid(), 24);
        x.undo();
        x.undo();
        x.undo();
        x.undo();
        Edge.far("paid(), all undone", x.paid(), 0);
        Edge.of("Promise 15", "NONE: 1 (no LAW).");
        Edge.taken(x, "paid()", x.paid(), 0);
        x = Check.under("tax root 0 third 1;choice a");
        Edge.taken(x, "paid() of no people", x.paid(), 0);
        x = new WaverTax();
        Edge.refused(x, "paid() without a LAW", x.paid(), 1);
    }

    private static void farthest() {
        Edge.of("Promise 16", "Two choices that are farthest: 10 times the lesser and the other one, the first such");
        Edge.near("farthest(): one pair", farthest("far d e by 2"), 34);
        Edge.near("farthest(): told the other way round", farthest("far e d by 2"), 34);
        Edge.far("farthest(): all alike", farthest("far d e by 1"), 1);
        Edge.far("farthest(): two alike, the first", farthest("far d e by 9;far a e by 9"), 4);
        Edge.far("farthest(): two alike, the first", farthest("far c d by 9;far b e by 9"), 14);
        Edge.near("farthest(): one a little farther", farthest("far c d by 9;far b e by 8"), 23);
        Edge.of("Promise 16", "-2 there is one alone.");
        WaverTax x = Check.under("tax root 0 third 1;choice a");
        Edge.taken(x, "farthest() of one", x.farthest(), -2);
        x = Check.under("tax root 0 third 1;choice a;choice b");
        Edge.far("farthest() of two", x.farthest(), 1);
        Edge.of("Promise 16", "NONE: 1 (no LAW).");
        Edge.taken(x, "farthest()", x.farthest(), 1);
        x = new WaverTax();
        Edge.refused(x, "farthest() without a LAW", x.farthest(), 1);
    }

    private static int farthest(String lines) {
        return Check.under("tax root 0 third 1;choice a;choice b;choice c;choice d;choice e;" + lines).farthest();
    }
}
