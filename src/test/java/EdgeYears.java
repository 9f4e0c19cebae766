/** Boundaries of Term III's DRAWS and YEARS and of promises 43 to 45. */
final class EdgeYears {
    private static final String III = "Term III";
    private static final int[] NO_SEED = {-1, 65537, 65538, Integer.MIN_VALUE, Integer.MAX_VALUE};
    private static final int[] NO_HOURS = {-1, 61, 62, Integer.MIN_VALUE, Integer.MAX_VALUE};
    private static final String ONE = "tax root 0 third 1;choice a;choice b;person p plain holds a;";

    private EdgeYears() {
    }

    static void run() {
        seeds();
        draws();
        years();
        year();
        yearHeld();
        yearChanges();
    }

    private static int seedBehind(int seed) {
        WaverTax x = Check.under(ONE + "reason p a at 1 odds 1 more 1");
        x.seed(seed);
        x.hours(1);
        return x.size(10);
    }

    private static void seeds() {
        Edge.of(III, "HOURS by DRAWS (SEED becomes (75 times SEED and 74) mod 65,537)");
        Edge.near("SEED behind 0", seedBehind(0), 74);
        Edge.near("SEED behind 872: not yet round", seedBehind(872), 65474);
        Edge.far("SEED behind 873: round once", seedBehind(873), 12);
        Edge.far("SEED behind 45438: just round", seedBehind(45438), 0);
        Edge.far("SEED behind 65536", seedBehind(65536), 65536);
        Edge.far("SEED behind 65535", seedBehind(65535), 65536 - 75);
    }

    /** Whether a reason came by a SEED and odds. */
    private static int came(int seed, int odds) {
        WaverTax x = Check.under(ONE + "reason p a at 1 odds " + odds + " more 1");
        x.seed(seed);
        int count = x.hours(1);
        return count == x.came(0) ? count : -9;
    }

    private static void draws() {
        Edge.of(III, "a DRAW mod 100: below its odds it comes.");
        // 1748 draws 100, that is 0; 3 draws 299, that is 99; 1 draws 149, that is 49
        Edge.near("0 is below 1", came(1748, 1), 1);
        Edge.far("0 is not below 0", came(1748, 0), 0);
        Edge.near("99 is below 100", came(3, 100), 1);
        Edge.far("99 is not below 99", came(3, 99), 0);
        Edge.near("49 is below 50", came(1, 50), 1);
        Edge.far("49 is not below 49", came(1, 49), 0);
        Edge.near("0 of SEED 0 is below 1", came(45438, 1), 1);
        Edge.of(III, "at each new hour, for each reason of that hour, as told");
        WaverTax x = Check.under(ONE + "person q mad holds a;reason p a at 2 odds 100 more 1;reason q b at 1 odds 75 more 1;"
            + "reason p b at 2 odds 52 more 1;reason q a at 1 odds 25 more 1");
        // SEEDS from 0: 74, 5624, 28652, 51790
        Edge.far("hours(1): those of hour 1 alone", x.hours(1), 2);
        Edge.far("size(10): two draws", x.size(10), 5624);
        Edge.near("came(1), the first draw", x.came(1), 1);
        Edge.near("came(3), the second draw", x.came(3), 1);
        Edge.far("came(0), not its hour", x.came(0), 0);
        Edge.near("hours(1)", x.hours(1), 1);
        Edge.near("size(10)", x.size(10), 51790);
        Edge.near("came(0), the third draw", x.came(0), 1);
        Edge.near("came(2): the fourth draw, 90, is not below 52", x.came(2), 0);
        Edge.far("hours(24): there is none of those hours", x.hours(24), 0);
        Edge.far("size(10): no draws", x.size(10), 51790);
        x = Check.under(ONE + "reason p a at 1 odds 100 more 1");
        Edge.far("came(0) at hour 0", x.came(0), 0);
        Edge.near("hours(3), past its hour", x.hours(3), 1);
        Edge.near("came(0)", x.came(0), 1);
        Edge.far("hours(3): it does not come twice", x.hours(3), 0);
        Edge.far("worth(0, 0)", x.worth(0, 0), 1);
    }

    private static void years() {
        Edge.of(III, "A YEAR by a SEED: so many hours from NOW; at each, the one NOW first, all by numbers change to what they CHOOSE; then the next hour.");
        WaverTax x = Check.under(ONE + "likes p b worth 2;reason p a at 1 odds 100 more 5;reason p b at 2 odds 100 more 9");
        // hour 0: to b for 1; hour 1: home for half of 1; hour 2: to b for 1 again
        Edge.far("yearHeld(0, 0, 0)", x.yearHeld(0, 0, 0), 0);
        Edge.near("yearHeld(0, 0, 1): the hour NOW is the first", x.yearHeld(0, 0, 1), 1);
        Edge.near("yearHeld(0, 0, 2): the reason of hour 1 came", x.yearHeld(0, 0, 2), 0);
        Edge.near("yearHeld(0, 0, 3)", x.yearHeld(0, 0, 3), 1);
        Edge.near("year(0, 1)", x.year(0, 1), 1);
        Edge.near("year(0, 2)", x.year(0, 2), 1);
        Edge.near("year(0, 3)", x.year(0, 3), 2);
        Edge.near("yearChanges(0, 3)", x.yearChanges(0, 3), 3);
        // from NOW
        x.hours(2);
        Edge.far("yearHeld(0, 0, 1) from hour 2", x.yearHeld(0, 0, 1), 1);
        Edge.far("year(0, 60): all came already", x.year(0, 60), 1);
        x.change(0, 1);
        Edge.far("yearChanges(0, 60): he holds it already", x.yearChanges(0, 60), 0);
        // by the year's SEED, not by that of NOW: 3 draws 99, 1748 draws 0
        x = Check.under(ONE + "reason p b at 1 odds 50 more 9");
        x.seed(3);
        Edge.near("yearHeld(0, 1748, 2)", x.yearHeld(0, 1748, 2), 1);
        Edge.far("yearHeld(0, 3, 2)", x.yearHeld(0, 3, 2), 0);
        x.seed(1748);
        Edge.far("yearHeld(0, 3, 2) by another SEED NOW", x.yearHeld(0, 3, 2), 0);
        Edge.near("hours(1) by the SEED NOW: the year left it alone", x.hours(1), 1);
        // beyond hour 999
        x = Check.under(ONE + "likes p b worth 1");
        for (int i = 0; i < 41; i++) {
            x.hours(24);
        }
        x.hours(15);
        Edge.near("size(9)", x.size(9), 999);
        Edge.near("year(0, 60) from hour 999", x.year(0, 60), 0);
        Edge.near("trouble(): a year may go beyond", x.trouble(), 0);
    }

    private static void year() {
        Edge.of("Promise 43", "A YEAR of n hours (0 .. 60) by a SEED (0 .. 65,536): TAX of all.");
        WaverTax x = Check.under(ONE + "person q proud holds a;likes p b worth 9;likes q b worth 9;reason q a at 12 odds 100 more 50");
        Edge.taken(x, "year(0, 0)", x.year(0, 0), 0);
        Edge.taken(x, "year(0, 1)", x.year(0, 1), 3);
        Edge.taken(x, "year(0, 60)", x.year(0, 60), 3);
        Edge.taken(x, "year(65536, 60)", x.year(65536, 60), 3);
        Edge.refused(x, "year(0, 61)", x.year(0, 61), 2);
        Edge.refused(x, "year(0, -1)", x.year(0, -1), 2);
        Edge.refused(x, "year(65537, 0)", x.year(65537, 0), 2);
        Edge.refused(x, "year(-1, 0)", x.year(-1, 0), 2);
        x.change(0, 1);
        Edge.taken(x, "year(0, 60): what was paid already is not of it", x.year(0, 60), 2);
        Edge.near("paid() is as it was", x.paid(), 1);
        Edge.near("person(1, 2) is as it was", x.person(1, 2), 0);
        Edge.near("size(11): a year is no ACT", x.size(11), 1);
        Edge.of("Promise 43", "NONE: 1 (no LAW); 2.");
        Edge.taken(x, "year(65536, 60)", x.year(65536, 60), 2);
        WaverTax none = new WaverTax();
        for (int bad : NO_SEED) {
            Edge.refused(x, "year(" + bad + ", 5)", x.year(bad, 5), 2);
            Edge.refused(none, "year(" + bad + ", 5) without a LAW: 1 ahead of 2", none.year(bad, 5), 1);
        }
        for (int bad : NO_HOURS) {
            Edge.refused(x, "year(5, " + bad + ")", x.year(5, bad), 2);
            Edge.refused(none, "year(5, " + bad + ") without a LAW: 1 ahead of 2", none.year(5, bad), 1);
        }
        Edge.refused(none, "year(0, 0) without a LAW", none.year(0, 0), 1);
        x = Check.under("tax root 0 third 1;choice a");
        Edge.taken(x, "year(0, 60) of no people", x.year(0, 60), 0);
    }

    private static void yearHeld() {
        Edge.of("Promise 44", "What one holds then.");
        WaverTax x = Check.under(ONE + "person q mad holds b;likes q a worth 1;reason p b at 12 odds 100 more 50");
        Edge.near("yearHeld(1, 0, 1)", x.yearHeld(1, 0, 1), 0);
        Edge.far("yearHeld(0, 0, 12): hours 0 to 11", x.yearHeld(0, 0, 12), 0);
        Edge.near("yearHeld(0, 0, 13): hour 12 too", x.yearHeld(0, 0, 13), 1);
        Edge.near("person(0, 2): NOW is as it was", x.person(0, 2), 0);
        Edge.near("size(9)", x.size(9), 0);
        Edge.of("Promise 44", "NONE: 1; 2.");
        Edge.taken(x, "yearHeld(1, 65536, 60)", x.yearHeld(1, 65536, 60), 0);
        Edge.taken(x, "yearHeld(1, 0, 0)", x.yearHeld(1, 0, 0), 1);
        for (int bad : new int[] {-1, 2, 5, Integer.MIN_VALUE, Integer.MAX_VALUE}) {
            Edge.refused(x, "yearHeld(" + bad + ", 0, 0)", x.yearHeld(bad, 0, 0), 1);
            Edge.refused(x, "yearHeld(" + bad + ", -1, 0): 1 ahead of 2", x.yearHeld(bad, -1, 0), 1);
            Edge.refused(x, "yearHeld(" + bad + ", 0, 61): 1 ahead of 2", x.yearHeld(bad, 0, 61), 1);
        }
        for (int bad : NO_SEED) {
            Edge.refused(x, "yearHeld(1, " + bad + ", 0)", x.yearHeld(1, bad, 0), 2);
        }
        for (int bad : NO_HOURS) {
            Edge.refused(x, "yearHeld(1, 0, " + bad + ")", x.yearHeld(1, 0, bad), 2);
        }
        x = new WaverTax();
        Edge.refused(x, "yearHeld(0, 0, 0) without a LAW", x.yearHeld(0, 0, 0), 1);
        x = Check.under("tax root 0 third 1;choice a;choice b;person p mad holds a;person q mad holds a;person r mad holds a;"
            + "person s mad holds a;person t mad holds b");
        Edge.taken(x, "yearHeld(4, 0, 60), the last of all", x.yearHeld(4, 0, 60), 1);
    }

    private static void yearChanges() {
        Edge.of("Promise 45", "How many changes there were.");
        WaverTax x = Check.under(ONE + "person q mad holds b;likes q a worth 1;reason p b at 12 odds 100 more 50");
        Edge.far("yearChanges(0, 0)", x.yearChanges(0, 0), 0);
        Edge.near("yearChanges(0, 1): of the mad too", x.yearChanges(0, 1), 1);
        Edge.near("yearChanges(0, 12)", x.yearChanges(0, 12), 1);
        Edge.near("yearChanges(0, 13)", x.yearChanges(0, 13), 2);
        x.change(1, 0);
        Edge.far("yearChanges(0, 1): those ahead of it are not of it", x.yearChanges(0, 1), 0);
        Edge.near("person(1, 3) is as it was", x.person(1, 3), 1);
        Edge.of("Promise 45", "NONE: 1 (no LAW); 2.");
        Edge.taken(x, "yearChanges(65536, 60)", x.yearChanges(65536, 60), 1);
        WaverTax none = new WaverTax();
        for (int bad : NO_SEED) {
            Edge.refused(x, "yearChanges(" + bad + ", 5)", x.yearChanges(bad, 5), 2);
            Edge.refused(none, "yearChanges(" + bad + ", 5) without a LAW: 1 ahead of 2", none.yearChanges(bad, 5), 1);
        }
        for (int bad : NO_HOURS) {
            Edge.refused(x, "yearChanges(5, " + bad + ")", x.yearChanges(5, bad), 2);
            Edge.refused(none, "yearChanges(5, " + bad + ") without a LAW: 1 ahead of 2", none.yearChanges(5, bad), 1);
        }
        Edge.refused(none, "yearChanges(0, 0) without a LAW", none.yearChanges(0, 0), 1);
    }
}
