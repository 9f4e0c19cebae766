/** Boundaries of promises 1 to 5: a new object, the tape, laws and their faults. */
final class EdgeLaws {
    private static final String LAW = "tax root 3 third 2;choice a;choice b;person p plain holds a;"
        + "likes p b worth 9;reason p b at 1 odds 100 more 5";

    private EdgeLaws() {
    }

    static void run() {
        newObject();
        feed();
        laws();
        fault();
        where();
    }

    private static void newObject() {
        Edge.of("Promise 1", "No LAW.");
        WaverTax x = new WaverTax();
        Edge.refused(x, "waverers() without a LAW", x.waverers(), 1);
        Edge.refused(x, "person(0, 0) without a LAW", x.person(0, 0), 1);
        for (int what = 0; what <= 13; what++) {
            Edge.far("size(" + what + ") without a LAW", x.size(what), 0);
        }
        Edge.taken(x, "laws", Check.laws(x, "tax root 3 third 2;choice a"), 0);
        Edge.taken(x, "waverers() by a LAW", x.waverers(), 0);
        Edge.near("size(2)", x.size(2), 1);
    }

    private static void feed() {
        Edge.ofOne("Promise 2", "Twenty bytes come behind THE TAPE, of each number the highest first");
        WaverTax x = new WaverTax();
        Edge.near("feed", x.feed(0x74617820, 0x726f6f74, 0x20332074, 0x68697264, 0x20323b63), 20);
        Edge.near("feed", x.feed(0x686f6963, 0x65206162, 0x63646566, 0x67683b63, 0x686f6963), 40);
        Edge.near("feed", x.feed(0x65206900, 0xffffffff, 0x80808080, 0x7f7f7f7f, 0), 60);
        Edge.near("laws(43): tax root 3 third 2;choice abcdefgh;choice i", x.laws(43), 0);
        Edge.near("size(2)", x.size(2), 2);
        // a byte above 127 is no TOKEN's, whatever its sign
        x.feed(0xf4617820, 0x726f6f74, 0x20332074, 0x68697264, 0x20323b63);
        Edge.near("laws(20)", x.laws(20), WaverTax.NONE);
        Edge.near("where()", x.where(), 0);
        Edge.ofOne("Promise 2", "how many it has");
        x = new WaverTax();
        for (int i = 1; i <= 45; i++) {
            Edge.near("feed " + i, x.feed(-1, 0, Integer.MAX_VALUE, Integer.MIN_VALUE, i), 20 * i);
            Edge.near("size(13)", x.size(13), 20 * i);
        }
        Edge.of("Promise 2", "NONE, and none comes, if there would be more than 900.");
        x = new WaverTax();
        String full = "tax root 3 third 2;choice a" + " ".repeat(864) + ";choice z";
        Check.feed(x, Check.bytes(full.substring(0, 880)));
        Edge.near("size(13)", x.size(13), 880);
        byte[] last = Check.bytes(full.substring(880));
        Edge.near("the 45th feed", x.feed(four(last, 0), four(last, 4), four(last, 8), four(last, 12), four(last, 16)), 900);
        Edge.far("the 46th feed", x.feed(1, 2, 3, 4, 5), WaverTax.NONE);
        Edge.far("the 47th feed", x.feed(0x20202020, 0, 0, 0, 0), WaverTax.NONE);
        Edge.far("size(13)", x.size(13), 900);
        Edge.far("laws(900): what was fed ahead is as it was", x.laws(900), 0);
        Edge.far("size(2)", x.size(2), 2);
        Edge.near("feed behind laws()", x.feed(0, 0, 0, 0, 0), 20);
    }

    private static int four(byte[] bytes, int at) {
        return bytes[at] << 24 | bytes[at + 1] << 16 | bytes[at + 2] << 8 | bytes[at + 3];
    }

    private static void laws() {
        Edge.of("Promise 3", "The first n bytes of THE TAPE (it is empty then) are the LAW from now on");
        String text = "tax root 3 third 2;choice ab;choice c";
        for (int n : new int[] {27, 28, 37, 38, 40}) {
            WaverTax x = new WaverTax();
            Check.feed(x, Check.bytes(text));
            Edge.near("laws(" + n + ")", x.laws(n), 0);
            Edge.near("size(2)", x.size(2), n < 37 ? 1 : 2);
            Edge.near("size(13)", x.size(13), 0);
        }
        for (int n : new int[] {0, 1, 17, 18, 19, 26, 29, 36}) {
            WaverTax x = new WaverTax();
            Check.feed(x, Check.bytes(text));
            Edge.refused(x, "laws(" + n + "), no whole LAW", x.laws(n), 4);
            Edge.far("size(13): it is empty then too", x.size(13), 0);
        }
        WaverTax names = Check.under("tax root 3 third 2;choice abc");
        Check.feed(names, Check.bytes("tax root 3 third 2;choice ab;choice abc"));
        Edge.near("laws(38): a WORD ends with the n bytes", names.laws(38), WaverTax.NONE);
        Edge.near("where(): ab is told twice then", names.where(), 36);
        Check.feed(names, Check.bytes("tax root 3 third 2;choice a;choice b;far a b by 23"));
        Edge.near("laws(49): a WHOLE ends with the n bytes", names.laws(49), 0);
        Edge.near("far(0, 1)", names.far(0, 1), 2);
        begins();
        people();
        Edge.of("Promise 3", "NONE: 2 (THE TAPE stays)");
        WaverTax x = new WaverTax();
        Edge.refused(x, "laws(1) of an empty TAPE", x.laws(1), 2);
        Check.feed(x, Check.bytes(text));
        for (int bad : new int[] {41, -1, 900, 901, Integer.MAX_VALUE, Integer.MIN_VALUE}) {
            Edge.refused(x, "laws(" + bad + ") of 40", x.laws(bad), 2);
            Edge.far("size(13)", x.size(13), 40);
        }
        Edge.taken(x, "laws(40) of 40", x.laws(40), 0);
        Edge.refused(x, "laws(1): it is empty now", x.laws(1), 2);
        Edge.far("size(2): the LAW stays", x.size(2), 2);
        Edge.of("Promise 3", "4 (the LAW stays).");
        x = Check.under(LAW);
        x.change(0, 1);
        x.mark();
        x.hours(1);
        String before = Edge.stand(x);
        Edge.fault(x, "tax root 9 third 4;choice x;choice y;choice z;person q proud holds y;likes q z worth 5;person^", 1);
        Edge.far("all stands as ahead of it", Edge.stand(x).equals(before), true);
        Edge.fault(x, "^", 1);
        Edge.far("all stands as ahead of it", Edge.stand(x).equals(before), true);
        Edge.far("undo(): so does what can be undone", x.undo(), true);
        Edge.far("back(0): so do MARKS", x.back(0), true);
        Edge.near("laws without a FAULT", Check.laws(x, LAW.replace("root 3", "root 4")), 1);
        Edge.near("all stands anew", Edge.stand(x).equals(before), false);
        Edge.near("size(0)", x.size(0), 4);
    }

    private static void begins() {
        Edge.ofOne("Promise 3", "hour 0, SEED 0, nobody changed, no reason came; nothing to undo, no MARKS");
        WaverTax x = Check.under(LAW);
        String anew = Edge.stand(x);
        x.seed(9);
        x.change(0, 1);
        x.hours(2);
        x.mark();
        Edge.near("something is otherwise now", Edge.stand(x).equals(anew), false);
        Edge.near("laws of the same text", Check.laws(x, LAW), 1);
        Edge.near("all stands as at the first", Edge.stand(x).equals(anew), true);
        Edge.near("size(9)", x.size(9), 0);
        Edge.near("size(10)", x.size(10), 0);
        Edge.near("person(0, 2)", x.person(0, 2), 0);
        Edge.near("person(0, 3)", x.person(0, 3), 0);
        Edge.near("came(0)", x.came(0), 0);
        Edge.near("undo()", x.undo(), false);
        Edge.near("trouble()", x.trouble(), 6);
        Edge.near("back(0)", x.back(0), false);
        Edge.near("trouble()", x.trouble(), 1);
        Edge.near("mark(): its number is the first again", x.mark(), 0);
    }

    private static void people() {
        Edge.ofOne("Promise 3", "how many people");
        String text = "tax root 3 third 2;choice a";
        for (int people = 0; people <= 5; people++) {
            Edge.near("laws of " + people, Check.laws(new WaverTax(), text), people);
            text += ";person " + (char) ('p' + people) + " mad holds a";
        }
    }

    private static void fault() {
        Edge.of("Promise 4", "The FAULT of the latest laws() not refused by 2");
        WaverTax x = new WaverTax();
        Edge.fault(x, "tax root ^10", 4);
        x.laws(1);
        Edge.far("fault() behind a laws() refused by 2", x.fault(), 4);
        x.undo();
        Edge.far("fault() behind other calls", x.fault(), 4);
        Edge.fault(x, "tax root 1 third 1^", 6);
        Edge.near("laws()", Check.laws(x, "tax root 1 third 1;choice a"), 0);
        Edge.near("fault() of the latest", x.fault(), 0);
        x.laws(-1);
        Edge.near("fault() behind a laws() refused by 2", x.fault(), 0);
        Edge.of("Promise 4", "0 without one.");
        Edge.near("fault() of a new object", new WaverTax().fault(), 0);
        x = new WaverTax();
        x.laws(1);
        Edge.near("fault() behind none but a laws() refused by 2", x.fault(), 0);
        Edge.fault(x, "^taxes", 1);
        Edge.near("laws()", Check.laws(x, "tax root 1 third 1;choice a"), 0);
        Edge.near("fault()", x.fault(), 0);
    }

    private static void where() {
        Edge.of("Promise 5", "Its place, if the latest call that may be refused was by 4");
        WaverTax x = new WaverTax();
        Edge.far("where() of a new object", x.where(), WaverTax.NONE);
        Check.laws(x, "tax root 1 third 1;choice A");
        Edge.near("where()", x.where(), 26);
        x.fault();
        x.where();
        x.trouble();
        x.size(3);
        x.feed(0, 0, 0, 0, 0);
        Edge.thrown(x, 0);
        Edge.near("where() behind calls of which no number is told", x.where(), 26);
        x.laws(21);
        Edge.far("where() behind a laws() refused by 2", x.where(), WaverTax.NONE);
        Edge.of("Promise 5", "NONE else.");
        x = new WaverTax();
        Check.laws(x, "^");
        Edge.near("where() at place 0", x.where(), 0);
        x.undo();
        Edge.far("where() behind a call refused by 6", x.where(), WaverTax.NONE);
        Check.laws(x, "^");
        x.waverers();
        Edge.far("where() behind a call refused by 1", x.where(), WaverTax.NONE);
        Check.laws(x, "tax root 1 third 1;choice a");
        Edge.far("where() behind laws() without a FAULT", x.where(), WaverTax.NONE);
        Check.laws(x, "^");
        Edge.near("where()", x.where(), 0);
        x.waverers();
        Edge.far("where() behind a call that wasn't refused", x.where(), WaverTax.NONE);
        Edge.far("fault() is told on", x.fault(), 1);
    }
}
