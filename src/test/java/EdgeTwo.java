/** Boundaries of Term III's TWO and REST and of promises 40 to 42. */
final class EdgeTwo {
    private static final String III = "Term III";
    private static final String PQ = "tax root 3 third 2;choice a;choice b;far a b by 3;person p plain holds a;person q proud holds b;";
    private static final String MAD = "tax root 0 third 1;choice a;choice b;person p mad holds a;person q mad holds b;";

    private EdgeTwo() {
    }

    static void run() {
        two();
        rest();
        twos();
        rests();
        firstRest();
    }

    private static void two() {
        Edge.of(III, "TWO: each stays, or changes to what the other one holds NOW (all at once): he has its WORTH less TAX, and 5 more if both hold one then.");
        WaverTax x = Check.under(PQ + "likes p a worth 10;likes p b worth 20;likes q a worth 30;likes q b worth 40");
        Edge.far("p, both stay", x.two(0, false, 1, false, false), 10);
        Edge.near("p stays, q comes: 5 more", x.two(0, false, 1, true, false), 15);
        Edge.near("p comes, q stays: less 3, 5 more", x.two(0, true, 1, false, false), 22);
        Edge.far("both change, all at once: they pass each other", x.two(0, true, 1, true, false), 17);
        Edge.far("q, both stay", x.two(0, false, 1, false, true), 40);
        Edge.near("q comes: less 6, 5 more", x.two(0, false, 1, true, true), 29);
        Edge.near("q stays, p comes", x.two(0, true, 1, false, true), 45);
        Edge.far("q, both change", x.two(0, true, 1, true, true), 24);
        x.change(0, 1);
        // NOW both hold b: a change is to what he holds, for nothing
        for (int pair = 0; pair < 4; pair++) {
            Edge.near("p, both hold b", x.two(0, pair > 1, 1, pair % 2 == 1, false), 25);
            Edge.near("q, both hold b", x.two(0, pair > 1, 1, pair % 2 == 1, true), 45);
        }
        x.change(1, 0);
        // p holds b, changed 0 hours ago; a is home: half of twice 3
        Edge.near("p home, at once, where q is", x.two(0, true, 1, false, false), 10 - 3 + 5);
        x = Check.under(PQ + "likes q b worth 0");
        Edge.far("p, both change: below 0", x.two(0, true, 1, true, false), -3);
        Edge.far("q, both change: below 0", x.two(0, true, 1, true, true), -6);
    }

    private static void rest() {
        Edge.of(III, "REST: a pair by which neither could have more alone.");
        // both are mad: coming together is worth 5, so staying is worth it by 5 and no less
        WaverTax x = Check.under(MAD + "likes p a worth 5;likes q b worth 5");
        Edge.near("rests(0, 1): as much is not more: all but both changing", x.rests(0, 1), 3);
        Edge.near("rest(0, 1)", x.rest(0, 1), 0);
        x = Check.under(MAD + "likes p a worth 4;likes q b worth 5");
        Edge.far("rests(0, 1): both staying, p would have more by coming", x.rests(0, 1), 2);
        Edge.far("rest(0, 1)", x.rest(0, 1), 1);
        x = Check.under(MAD + "likes p a worth 4;likes q b worth 6");
        Edge.far("rests(0, 1): p comes alone, for q would have more by staying", x.rests(0, 1), 1);
        Edge.far("rest(0, 1)", x.rest(0, 1), 10);
        x = Check.under(MAD + "likes p a worth 6;likes q b worth 5");
        Edge.near("rests(0, 1): both stay, or q comes", x.rests(0, 1), 2);
        x = Check.under(MAD + "likes p a worth 6;likes q b worth 6");
        Edge.near("rests(0, 1): both stay alone", x.rests(0, 1), 1);
        x = Check.under(MAD + "likes p a worth 5;likes q b worth 4");
        Edge.far("rests(0, 1): both staying, q would have more by coming", x.rests(0, 1), 2);
        Edge.far("rest(0, 1)", x.rest(0, 1), 1);
    }

    private static void twos() {
        Edge.of("Promise 40", "What the one (or other, the other one) has if each changes or stays.");
        WaverTax x = Check.under(PQ + "likes p a worth 10;likes q b worth 40");
        Edge.near("the one", x.two(0, false, 1, false, false), 10);
        Edge.far("the other one", x.two(0, false, 1, false, true), 40);
        Edge.near("the one, by the other order", x.two(1, false, 0, false, false), 40);
        Edge.far("the other one, by the other order", x.two(1, false, 0, false, true), 10);
        Edge.near("the one changes, by the other order", x.two(1, true, 0, false, false), -6 + 5);
        Edge.far("the one changes, the other one has", x.two(1, true, 0, false, true), 15);
        Edge.of("Promise 40", "-1,000: 1 (unlike).");
        badTwos("two");
    }

    /** Five people, so that the last of all are tried too; then the same one twice, and none such. */
    private static void badTwos(String call) {
        WaverTax x = Check.under("tax root 0 third 1;choice a;person p mad holds a;person q mad holds a;person r mad holds a;"
            + "person s mad holds a;person t mad holds a");
        int due = call.equals("two") ? 5 : call.equals("rests") ? 4 : 0;
        int answer = ask(x, call, 3, 4);
        Edge.taken(x, call + "(3, 4)", answer, due);
        answer = ask(x, call, 4, 0);
        Edge.taken(x, call + "(4, 0)", answer, due);
        int refused = call.equals("two") ? -1000 : WaverTax.NONE;
        for (int same = 0; same < 5; same++) {
            answer = ask(x, call, same, same);
            Edge.refusedBy(x, call + "(" + same + ", " + same + ")", answer, refused, 1);
        }
        for (int bad : new int[] {-1, 5, 6, Integer.MIN_VALUE, Integer.MAX_VALUE}) {
            answer = ask(x, call, bad, 0);
            Edge.refusedBy(x, call + "(" + bad + ", 0)", answer, refused, 1);
            answer = ask(x, call, 0, bad);
            Edge.refusedBy(x, call + "(0, " + bad + ")", answer, refused, 1);
            answer = ask(x, call, bad, bad);
            Edge.refusedBy(x, call + "(" + bad + ", " + bad + ")", answer, refused, 1);
        }
        x = new WaverTax();
        answer = ask(x, call, 0, 1);
        Edge.refusedBy(x, call + "(0, 1) without a LAW", answer, refused, 1);
    }

    private static int ask(WaverTax x, String call, int p, int q) {
        return call.equals("two") ? x.two(p, false, q, true, true) : call.equals("rests") ? x.rests(p, q) : x.rest(p, q);
    }

    private static void rests() {
        Edge.of("Promise 41", "How many RESTS.");
        Edge.far("rests(0, 1): one", Check.under(PQ + "likes p a worth 9;likes q b worth 9").rests(0, 1), 1);
        Edge.near("rests(0, 1): either comes", Check.under(MAD + "likes p a worth 0").rests(0, 1), 2);
        Edge.near("rests(0, 1): three", Check.under(MAD + "likes p a worth 5;likes q b worth 5").rests(0, 1), 3);
        WaverTax x = Check.under(MAD + "likes p a worth 5");
        x.change(0, 1);
        Edge.near("rests(0, 1): all four, of two who hold one", x.rests(0, 1), 4);
        Edge.near("rests(1, 0)", x.rests(1, 0), 4);
        Edge.near("size(11): asking is no ACT", x.size(11), 1);
        Edge.of("Promise 41", "NONE: 1 (unlike).");
        badTwos("rests");
    }

    private static void firstRest() {
        Edge.of("Promise 42", "The first (the one stays ahead, then the other one): 10 if the one changes, and 1 if the other one does; -2.");
        Edge.near("rest(0, 1): both stay", Check.under(MAD + "likes p a worth 6;likes q b worth 6").rest(0, 1), 0);
        Edge.near("rest(0, 1): both stay, the first of three", Check.under(MAD + "likes p a worth 5;likes q b worth 5").rest(0, 1), 0);
        Edge.near("rest(0, 1): the one stays, the first of two", Check.under(MAD + "likes p a worth 0").rest(0, 1), 1);
        Edge.near("rest(1, 0): the one stays, the first of two", Check.under(MAD + "likes p a worth 0").rest(1, 0), 1);
        Edge.far("rest(0, 1): the one changes alone", Check.under(MAD + "likes q b worth 9").rest(0, 1), 10);
        Edge.near("rest(1, 0): the other one changes alone", Check.under(MAD + "likes q b worth 9").rest(1, 0), 1);
        Edge.far("rest(0, 1): both change", Check.under(MAD + "likes p b worth 6;likes q a worth 6").rest(0, 1), 11);
        // -2 is never met: being together is worth 5 to both, so no two chase each other round
        for (int gain = 0; gain <= 12; gain++) {
            for (int gain2 = 0; gain2 <= 12; gain2++) {
                WaverTax x = Check.under(MAD + "likes p a worth " + gain + ";likes q a worth " + gain2);
                Edge.near("rest(0, 1) is none but where rests(0, 1) is 0", x.rest(0, 1) == -2, x.rests(0, 1) == 0);
            }
        }
        Edge.of("Promise 42", "NONE: 1 (unlike).");
        badTwos("rest");
    }
}
