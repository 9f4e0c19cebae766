/** Boundaries of Term III's ACTS, UNDO and MARKS and of promises 46 to 51. */
final class EdgeActs {
    private static final String III = "Term III";
    private static final String LAW = "tax root 2 third 3;choice a;choice b;far a b by 4;person p plain holds a;person q proud holds a;"
        + "reason p b at 1 odds 100 more 5;reason q b at 3 odds 100 more 7";

    private EdgeActs() {
    }

    static void run() {
        acts();
        undoes();
        marked();
        change();
        hours();
        seed();
        undo();
        mark();
        back();
    }

    private static void acts() {
        Edge.of(III, "ACTS: CHANGE, HOURS (by SEED).");
        WaverTax x = Check.under(LAW);
        Edge.near("size(11)", x.size(11), 0);
        x.change(0, 1);
        Edge.near("size(11) behind CHANGE", x.size(11), 1);
        x.hours(1);
        Edge.near("size(11) behind HOURS", x.size(11), 2);
        x.hours(24);
        Edge.near("size(11) behind HOURS of a day", x.size(11), 3);
        x.seed(9);
        x.mark();
        x.year(0, 60);
        x.plan(0, 4, false);
        x.rests(0, 1);
        x.ask();
        x.change(0, 1);
        x.change(9, 9);
        x.hours(0);
        x.hours(25);
        Edge.far("size(11) behind calls that are none, or were refused", x.size(11), 3);
        x = Check.under(LAW);
        x.seed(873);
        x.hours(1);
        Edge.near("size(10): HOURS are by SEED", x.size(10), 12);
    }

    private static void undoes() {
        Edge.of(III, "UNDO: all, SEED too, is as ahead of the latest (16 are kept).");
        WaverTax x = behindActs(0);
        for (int act = 0; act < 20; act++) {
            act(x, act);
            if (act < 15) {
                Edge.near("size(11)", x.size(11), act + 1);
            } else {
                Edge.far("size(11): no more than 16", x.size(11), 16);
            }
        }
        for (int act = 19; act >= 4; act--) {
            Edge.near("undo()", x.undo(), true);
            Edge.near("size(10): SEED as ahead of act " + act, x.size(10), 99 + act);
            if (act == 19 || act == 5 || act == 4) {
                Edge.near("all is as ahead of act " + act, same(Edge.stand(x), Edge.stand(behindActs(act))), true);
            }
        }
        Edge.refused(x, "undo(): the 17th back is not kept", x.undo(), 6);
        String fourth = Edge.stand(behindActs(4));
        Edge.far("all is as ahead of act 4 still", same(Edge.stand(x), fourth), true);
        x.hours(1);
        Edge.near("size(11)", x.size(11), 1);
        Edge.near("undo() of an act behind undoing", x.undo(), true);
        Edge.near("all is as ahead of act 4 again", same(Edge.stand(x), fourth), true);
    }

    /** An object behind so many ACTS: changes and hours by turns, and a SEED behind each. */
    private static WaverTax behindActs(int acts) {
        WaverTax x = Check.under(LAW);
        x.seed(5);
        for (int act = 0; act < acts; act++) {
            act(x, act);
        }
        return x;
    }

    private static void act(WaverTax x, int act) {
        int p = act / 2 % 2;
        if (act % 2 == 0) {
            x.change(p, 1 - x.person(p, 2));
        } else {
            x.hours(1);
        }
        x.seed(100 + act);
    }

    /** How all stands, but for how many ACTS can be undone: those go with undoing. */
    private static boolean same(String one, String other) {
        String[] ones = one.split(" ");
        String[] others = other.split(" ");
        ones[11] = "";
        others[11] = "";
        return String.join(" ", ones).equals(String.join(" ", others));
    }

    private static void marked() {
        Edge.of(III, "MARKS: up to 3; gone back to one, nothing can be undone.");
        WaverTax x = Check.under(LAW);
        x.change(0, 1);
        for (int mark = 0; mark < 3; mark++) {
            Edge.taken(x, "mark()", x.mark(), mark);
            Edge.near("size(12)", x.size(12), mark + 1);
            x.hours(1);
        }
        Edge.refused(x, "a fourth mark()", x.mark(), 3);
        Edge.far("size(12)", x.size(12), 3);
        Edge.near("size(11) ahead of going back", x.size(11), 4);
        Edge.near("back(0)", x.back(0), true);
        Edge.far("size(11)", x.size(11), 0);
        Edge.refused(x, "undo()", x.undo(), 6);
        Edge.far("person(0, 2): the change ahead of the MARK stays", x.person(0, 2), 1);
        x.hours(1);
        Edge.near("undo() of an ACT behind going back", x.undo(), true);
        Edge.refused(x, "undo() once more", x.undo(), 6);
    }

    private static void change() {
        Edge.of("Promise 46", "CHANGE: TAX.");
        WaverTax x = Check.under(LAW);
        int tax = x.tax(1, 1);
        Edge.taken(x, "change(1, 1)", x.change(1, 1), tax);
        Edge.near("that is twice 4", tax, 8);
        Edge.near("person(1, 2)", x.person(1, 2), 1);
        Edge.near("person(1, 3)", x.person(1, 3), 1);
        Edge.near("person(1, 4)", x.person(1, 4), 8);
        Edge.near("person(1, 5)", x.person(1, 5), 0);
        Edge.far("person(0, 2): nobody else", x.person(0, 2), 0);
        Edge.far("person(0, 3)", x.person(0, 3), 0);
        Edge.taken(x, "change(1, 0): soon, home, proud", x.change(1, 0), 8);
        Edge.of("Promise 46", "NONE: 1; 5 (he holds it).");
        x = Check.under(LAW);
        Edge.refused(x, "change(0, 0), which he holds", x.change(0, 0), 5);
        Edge.taken(x, "change(0, 1), which he doesn't", x.change(0, 1), 4);
        String before = Edge.stand(x);
        Edge.refused(x, "change(0, 1), which he holds NOW", x.change(0, 1), 5);
        for (int bad : new int[] {-1, 2, 5, Integer.MIN_VALUE, Integer.MAX_VALUE}) {
            Edge.refused(x, "change(" + bad + ", 0)", x.change(bad, 0), 1);
            Edge.refused(x, "change(0, " + bad + ")", x.change(0, bad), 1);
        }
        Edge.far("all stands as ahead of what was refused", Edge.stand(x).equals(before), true);
        x = new WaverTax();
        Edge.refused(x, "change(0, 0) without a LAW", x.change(0, 0), 1);
    }

    private static void hours() {
        Edge.of("Promise 47", "HOURS (1 .. 24): how many reasons came.");
        WaverTax x = Check.under(LAW);
        Edge.taken(x, "hours(1)", x.hours(1), 1);
        Edge.near("size(9)", x.size(9), 1);
        Edge.taken(x, "hours(24)", x.hours(24), 1);
        Edge.near("size(9)", x.size(9), 25);
        Edge.taken(x, "hours(24): none is left", x.hours(24), 0);
        Edge.refused(x, "hours(0)", x.hours(0), 2);
        Edge.refused(x, "hours(25)", x.hours(25), 2);
        Edge.far("size(9)", x.size(9), 49);
        Edge.near("hours(3) of both", Check.under(LAW).hours(3), 2);
        Edge.of("Promise 47", "NONE: 1 (no LAW); 2; 3 (it would be above hour 999).");
        x = Check.under(LAW);
        for (int day = 0; day < 41; day++) {
            x.hours(24);
        }
        Edge.near("size(9)", x.size(9), 984);
        Edge.refused(x, "hours(16) to 1000", x.hours(16), 3);
        Edge.refused(x, "hours(24) to 1008", x.hours(24), 3);
        Edge.far("size(9)", x.size(9), 984);
        Edge.far("size(11)", x.size(11), 16);
        Edge.taken(x, "hours(15) to 999", x.hours(15), 0);
        String before = Edge.stand(x);
        Edge.refused(x, "hours(1) to 1000", x.hours(1), 3);
        for (int bad : new int[] {-1, 0, 25, Integer.MIN_VALUE, Integer.MAX_VALUE}) {
            Edge.refused(x, "hours(" + bad + "): 2 ahead of 3", x.hours(bad), 2);
        }
        Edge.far("all stands as ahead of what was refused", Edge.stand(x).equals(before), true);
        x.undo();
        Edge.taken(x, "hours(14) to 998", x.hours(14), 0);
        Edge.taken(x, "hours(1) to 999", x.hours(1), 0);
        x = new WaverTax();
        Edge.refused(x, "hours(1) without a LAW", x.hours(1), 1);
        Edge.refused(x, "hours(0) without a LAW: 1 ahead of 2", x.hours(0), 1);
        x = Check.under("tax root 0 third 1;choice a");
        Edge.taken(x, "hours(1) of no people", x.hours(1), 0);
    }

    private static void seed() {
        Edge.ofOne("Promise 48", "SEED (no ACT): true");
        WaverTax x = Check.under(LAW);
        Edge.taken(x, "seed(7)", x.seed(7));
        Edge.near("size(10)", x.size(10), 7);
        Edge.near("size(11)", x.size(11), 0);
        Edge.near("undo(): there is no ACT", x.undo(), false);
        Edge.near("size(10)", x.size(10), 7);
        Edge.of("Promise 48", "false: 1 (no LAW); 2 (0 .. 65,536).");
        Edge.taken(x, "seed(65536)", x.seed(65536));
        Edge.near("size(10)", x.size(10), 65536);
        Edge.taken(x, "seed(0)", x.seed(0));
        Edge.near("size(10)", x.size(10), 0);
        x.seed(9);
        WaverTax none = new WaverTax();
        for (int bad : new int[] {-1, 65537, Integer.MIN_VALUE, Integer.MAX_VALUE}) {
            Edge.refused(x, "seed(" + bad + ")", x.seed(bad), 2);
            Edge.refused(none, "seed(" + bad + ") without a LAW: 1 ahead of 2", none.seed(bad), 1);
        }
        Edge.far("size(10)", x.size(10), 9);
        Edge.refused(none, "seed(0) without a LAW", none.seed(0), 1);
        Edge.far("size(10) without a LAW", none.size(10), 0);
    }

    private static void undo() {
        Edge.of("Promise 49", "UNDO: true; false: 6.");
        WaverTax x = Check.under(LAW);
        Edge.refused(x, "undo() ahead of all ACTS", x.undo(), 6);
        String first = Edge.stand(x);
        x.change(1, 1);
        Edge.taken(x, "undo()", x.undo());
        Edge.near("all is as at the first", Edge.stand(x).equals(first), true);
        Edge.refused(x, "undo(): nothing is left", x.undo(), 6);
        x.hours(3);
        Edge.taken(x, "undo() of HOURS", x.undo());
        Edge.near("all is as at the first", Edge.stand(x).equals(first), true);
        Edge.near("came(0)", x.came(0), 0);
        Edge.refused(x, "undo()", x.undo(), 6);
        Edge.far("all is as at the first", Edge.stand(x).equals(first), true);
        x.hours(1);
        Check.laws(x, LAW);
        Edge.refused(x, "undo() behind a new LAW", x.undo(), 6);
        x = new WaverTax();
        Edge.refused(x, "undo() without a LAW", x.undo(), 6);
    }

    private static void mark() {
        Edge.ofOne("Promise 50", "A MARK: its number.");
        WaverTax x = Check.under(LAW);
        Edge.near("mark()", x.mark(), 0);
        Edge.near("mark(), though nothing is otherwise", x.mark(), 1);
        Edge.near("mark()", x.mark(), 2);
        Edge.near("size(12)", x.size(12), 3);
        Edge.near("size(11): no ACT", x.size(11), 0);
        Edge.of("Promise 50", "NONE: 1 (no LAW); 3.");
        Edge.refused(x, "mark(): there are 3", x.mark(), 3);
        Edge.far("size(12)", x.size(12), 3);
        x.back(0);
        Edge.refused(x, "mark() behind back(): all MARKS stay", x.mark(), 3);
        Check.laws(x, LAW);
        Edge.taken(x, "mark() behind a new LAW", x.mark(), 0);
        x = new WaverTax();
        Edge.refused(x, "mark() without a LAW", x.mark(), 1);
        Edge.far("size(12)", x.size(12), 0);
    }

    private static void back() {
        Edge.ofOne("Promise 51", "All is as by a MARK (all MARKS stay): true");
        WaverTax x = Check.under(LAW);
        x.seed(11);
        String first = Edge.stand(x);
        x.mark();
        x.change(0, 1);
        x.hours(1);
        x.seed(22);
        String second = Edge.stand(x);
        x.mark();
        x.hours(2);
        x.change(1, 1);
        Edge.taken(x, "back(1)", x.back(1));
        Edge.near("all is as by it", withoutPast(Edge.stand(x)).equals(withoutPast(second)), true);
        Edge.near("size(12)", x.size(12), 2);
        Edge.taken(x, "back(0)", x.back(0));
        Edge.near("all is as by it", withoutPast(Edge.stand(x)).equals(withoutPast(first)), true);
        Edge.near("size(12)", x.size(12), 2);
        Edge.near("size(10): SEED too", x.size(10), 11);
        Edge.taken(x, "back(1), which lies ahead", x.back(1));
        Edge.near("all is as by it", withoutPast(Edge.stand(x)).equals(withoutPast(second)), true);
        x.change(0, 0);
        Edge.taken(x, "back(1) again", x.back(1));
        Edge.near("all is as by it", withoutPast(Edge.stand(x)).equals(withoutPast(second)), true);
        Edge.of("Promise 51", "false: 1.");
        x.hours(1);
        String before = Edge.stand(x);
        for (int bad : new int[] {-1, 2, 3, Integer.MIN_VALUE, Integer.MAX_VALUE}) {
            Edge.refused(x, "back(" + bad + ") of two", x.back(bad), 1);
        }
        Edge.far("all stands as ahead of what was refused", Edge.stand(x).equals(before), true);
        Edge.taken(x, "back(1) of two", x.back(1));
        x.mark();
        Edge.taken(x, "back(2) of three", x.back(2));
        Edge.refused(x, "back(3) of three", x.back(3), 1);
        Check.laws(x, LAW);
        Edge.refused(x, "back(0) behind a new LAW", x.back(0), 1);
        x = new WaverTax();
        Edge.refused(x, "back(0) without a LAW", x.back(0), 1);
    }

    /** How all stands, but for what can be undone and how many MARKS there are. */
    private static String withoutPast(String stand) {
        String[] parts = stand.split(" ");
        parts[11] = "";
        parts[12] = "";
        return String.join(" ", parts);
    }
}
