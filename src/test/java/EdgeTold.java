/** Boundaries of Term IV, of the constants, of an object's 512 calls, and of promises 52 to 54. */
final class EdgeTold {
    private static final String IV = "Term IV";
    private static final String LAW = "tax root 3 third 2;choice a;choice b;person p plain holds a;person q mad holds b;person r child holds a;"
        + "likes p b worth 9;reason p b at 1 odds 100 more 5;paid p 1 hour 0;shop m crowd 5;shop n crowd 6;lane m n;far a b by 4";

    private EdgeTold() {
    }

    static void run() {
        none();
        calls();
        troubles();
        untroubled();
        led();
        size();
        trouble();
    }

    private static void none() {
        Edge.ofOne("The constants", "`NONE = -1`: There is none; refused.");
        Edge.near("NONE", WaverTax.NONE, -1);
        Edge.near("size(-1)", new WaverTax().size(-1), WaverTax.NONE);
        Edge.near("raised() without a LAW", new WaverTax().raised(), WaverTax.NONE);
    }

    private static void calls() {
        Edge.ofOne("What it is", "An object is used for at most 512 calls after it has been made; what later calls answer is free.");
        WaverTax x = new WaverTax();
        byte[] text = Check.bytes(LAW);
        Check.feed(x, text);
        int calls = (text.length + 19) / 20;
        Edge.near("laws", x.laws(text.length), 3);
        calls++;
        for (int i = 0; calls < 510; i++, calls += 2) {
            x.change(i % 3, 1 - i / 3 % 2);
            x.hours(1);
        }
        Edge.near("so many calls", calls >= 510 && calls <= 511, true);
        if (calls == 510) {
            Edge.near("call 511", x.size(3), 3);
        }
        Edge.near("call 512", x.size(11), 16);
    }

    private static void troubles() {
        Edge.of(IV, "0 it wasn't; 1 there is none such; 2 a number; 3 no room; 4 a FAULT; 5 not so; 6 there is none.");
        WaverTax x = Check.under(LAW);
        Edge.near("laws, then trouble()", x.trouble(), 0);
        x.person(3, 0);
        Edge.far("1 there is none such", x.trouble(), 1);
        x.laws(1);
        Edge.far("2 a number", x.trouble(), 2);
        for (int i = 0; i < 4; i++) {
            x.mark();
        }
        Edge.far("3 no room", x.trouble(), 3);
        Check.laws(x, "tax");
        Edge.far("4 a FAULT", x.trouble(), 4);
        x.change(0, 0);
        Edge.far("5 not so", x.trouble(), 5);
        x.undo();
        Edge.far("6 there is none", x.trouble(), 6);
        x.person(2, 0);
        Edge.near("0 it wasn't", x.trouble(), 0);
    }

    private static void untroubled() {
        Edge.of(IV, "TROUBLE of the latest call that may be refused (those of which a number is told here)");
        WaverTax x = Check.under(LAW);
        x.change(0, 0);
        Edge.far("trouble()", x.trouble(), 5);
        x.feed(0, 0, 0, 0, 0);
        x.fault();
        x.where();
        x.size(3);
        x.size(99);
        x.led(0);
        Edge.thrown(x, 99);
        x.trouble();
        Edge.far("trouble() behind calls of which no number is told", x.trouble(), 5);
        for (int i = 0; i < 45; i++) {
            x.feed(0, 0, 0, 0, 0);
        }
        Edge.far("feed that has no room", x.feed(0, 0, 0, 0, 0), WaverTax.NONE);
        Edge.far("trouble() behind it", x.trouble(), 5);
        x.waverers();
        Edge.near("trouble() behind a call that may be refused", x.trouble(), 0);
        Edge.thrown(x, 99);
        Edge.near("trouble() behind led() that throws", x.trouble(), 0);
        everyCallIsTold();
    }

    /** Each call that may be refused, once taken and once refused, so that none leaves TROUBLE of the call ahead. */
    private static void everyCallIsTold() {
        WaverTax good = Check.under(LAW);
        WaverTax none = new WaverTax();
        for (int which = 0; which < CALLS.length; which++) {
            good.change(0, 0);
            call(good, which);
            Edge.near("trouble() behind " + CALLS[which], good.trouble(), 0);
            none.laws(1);
            call(none, which);
            Edge.far("trouble() behind " + CALLS[which] + " without a LAW", none.trouble(), CALLS[which].equals("undo") ? 6 : 1);
            if (CALLS[which].equals("change")) {
                good.undo();
            }
        }
    }

    private static final String[] CALLS = {"person", "far", "worth", "tax", "chooses", "waverers", "holders", "fashion", "came",
        "paid", "farthest", "plan", "planFirst", "stays", "planBy", "raised", "harm", "raisedBy", "harmBy", "bestTable",
        "raisedThird", "harmThird", "stillTable", "rows", "could", "surely", "firstOf", "ask", "askLeaves", "liar", "caught",
        "places", "enough", "catches", "two", "rests", "rest", "year", "yearHeld", "yearChanges", "change", "hours", "undo",
        "seed", "mark", "back"};

    private static void call(WaverTax x, int which) {
        switch (CALLS[which]) {
            case "person": x.person(0, 0); break;
            case "far": x.far(0, 1); break;
            case "worth": x.worth(0, 1); break;
            case "tax": x.tax(0, 1); break;
            case "chooses": x.chooses(0); break;
            case "waverers": x.waverers(); break;
            case "holders": x.holders(0); break;
            case "fashion": x.fashion(); break;
            case "came": x.came(0); break;
            case "paid": x.paid(); break;
            case "farthest": x.farthest(); break;
            case "plan": x.plan(0, 2, false); break;
            case "planFirst": x.planFirst(0, 2); break;
            case "stays": x.stays(0, 2, true); break;
            case "planBy": x.planBy(0, 2, 1, true); break;
            case "raised": x.raised(); break;
            case "harm": x.harm(); break;
            case "raisedBy": x.raisedBy(1); break;
            case "harmBy": x.harmBy(1); break;
            case "bestTable": x.bestTable(); break;
            case "raisedThird": x.raisedThird(1); break;
            case "harmThird": x.harmThird(1); break;
            case "stillTable": x.stillTable(); break;
            case "rows": x.rows(0); break;
            case "could": x.could(0); break;
            case "surely": x.surely(0); break;
            case "firstOf": x.firstOf(0); break;
            case "ask": x.ask(); break;
            case "askLeaves": x.askLeaves(); break;
            case "liar": x.liar(); break;
            case "caught": x.caught(1); break;
            case "places": x.places(1); break;
            case "enough": x.enough(); break;
            case "catches": x.catches(0); break;
            case "two": x.two(0, true, 1, false, true); break;
            case "rests": x.rests(0, 1); break;
            case "rest": x.rest(0, 1); break;
            case "year": x.year(0, 1); break;
            case "yearHeld": x.yearHeld(0, 0, 1); break;
            case "yearChanges": x.yearChanges(0, 1); break;
            case "change": x.change(0, 1); break;
            case "hours": x.hours(1); break;
            case "undo": x.undo(); break;
            case "seed": x.seed(5); break;
            case "mark": x.mark(); break;
            case "back": x.back(0); break;
            default: Check.due("a call named " + CALLS[which], 0, 1); break;
        }
    }

    private static void led() {
        Edge.of("Promise 52", "The i-th person, by numbers, who holds what he held first.");
        WaverTax x = Check.under(LAW);
        for (int p = 0; p < 3; p++) {
            Edge.near("led(" + p + "), all of them", x.led(p), p);
        }
        x.change(0, 1);
        Edge.near("led(0) is the second", x.led(0), 1);
        Edge.near("led(1) is the third", x.led(1), 2);
        x.change(2, 1);
        Edge.near("led(0)", x.led(0), 1);
        Edge.far("led(1) throws", Edge.thrown(x, 1), 1);
        x.change(0, 0);
        Edge.near("led(0), who came home", x.led(0), 0);
        Edge.near("led(1)", x.led(1), 1);
        Edge.of("Promise 52", "NoSuchElementException if there is none such.");
        Edge.near("led(1), the last", Edge.thrown(x, 1), 0);
        for (int bad : new int[] {2, 3, 5, -1, Integer.MIN_VALUE, Integer.MAX_VALUE}) {
            Edge.far("led(" + bad + ") throws", Edge.thrown(x, bad), 1);
        }
        x.change(0, 1);
        x.change(1, 0);
        for (int bad : new int[] {0, 1, -1}) {
            Edge.far("led(" + bad + ") throws: all changed", Edge.thrown(x, bad), 1);
        }
        Edge.far("led(0) throws without a LAW", Edge.thrown(new WaverTax(), 0), 1);
        Edge.far("led(0) throws without people", Edge.thrown(Check.under("tax root 0 third 1;choice a"), 0), 1);
    }

    private static void size() {
        Edge.ofOne("Promise 53", "0 root, 1 third, 2 choices, 3 people, 4 liked, 5 reasons, 6 receipts, 7 shops, 8 lanes, 9 the hour NOW, 10 SEED, "
            + "11 ACTS that can be undone, 12 MARKS, 13 bytes of THE TAPE.");
        WaverTax x = Check.under(LAW);
        x.hours(5);
        x.change(0, 1);
        x.seed(77);
        x.mark();
        x.feed(1, 2, 3, 4, 5);
        int[] due = {3, 2, 2, 3, 1, 1, 1, 2, 1, 5, 77, 2, 1, 20};
        for (int what = 0; what < due.length; what++) {
            Edge.near("size(" + what + ")", x.size(what), due[what]);
        }
        Edge.of("Promise 53", "NONE for others");
        Edge.near("size(0)", x.size(0), 3);
        Edge.near("size(13)", x.size(13), 20);
        for (int bad : new int[] {-1, 14, 15, Integer.MIN_VALUE, Integer.MAX_VALUE}) {
            Edge.far("size(" + bad + ")", x.size(bad), WaverTax.NONE);
            Edge.far("size(" + bad + ") without a LAW", new WaverTax().size(bad), WaverTax.NONE);
        }
        Edge.of("Promise 53", "0 for what there isn't.");
        x = new WaverTax();
        for (int what = 0; what <= 13; what++) {
            Edge.near("size(" + what + ") without a LAW", x.size(what), 0);
        }
        x = Check.under("tax root 3 third 2;choice a");
        for (int what = 3; what <= 13; what++) {
            Edge.near("size(" + what + ")", x.size(what), 0);
        }
        Edge.far("size(2) of what there is", x.size(2), 1);
    }

    private static void trouble() {
        Edge.of("Promise 54", "TROUBLE.");
        WaverTax x = new WaverTax();
        Edge.near("trouble() of a new object", x.trouble(), 0);
        x.undo();
        Edge.far("trouble() of a refused call", x.trouble(), 6);
        Edge.far("trouble() again", x.trouble(), 6);
        Check.laws(x, LAW);
        Edge.near("trouble() of a call that wasn't refused", x.trouble(), 0);
    }
}
