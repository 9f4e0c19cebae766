import java.util.NoSuchElementException;

/** Promises 1 to 5, and 53 and 54 as far as they tell of the text; Terms I. */
public final class LawTest {
    private static final String T = "tax root 3 third 2;";
    private static final String AB = T + "choice a;choice b;";
    private static final String P = AB + "person p plain holds a;";

    public static void main(String[] args) {
        newObject();
        tape();
        lawful();
        limits();
        form();
        untold();
        again();
        bounds();
        many();
        lacks();
        leastOfOnePlace();
        faultKeepsAll();
        nothingOfAnotherLaw();
        Check.end();
    }

    private static void newObject() {
        WaverTax x = new WaverTax();
        Check.due("new trouble()", x.trouble(), 0);
        Check.due("new fault()", x.fault(), 0);
        Check.due("new where()", x.where(), -1);
        for (int what = 0; what <= 13; what++) {
            Check.due("new size(" + what + ")", x.size(what), 0);
        }
        Check.due("size(14)", x.size(14), -1);
        Check.due("size(-1)", x.size(-1), -1);
        Check.due("size does not count for trouble()", x.trouble(), 0);
        Check.refused(x, "mark()", x.mark(), 1);
        Check.refused(x, "person(0, 0)", x.person(0, 0), 1);
    }

    private static void tape() {
        WaverTax x = new WaverTax();
        x.undo();
        for (int i = 1; i <= 45; i++) {
            Check.due("feed " + i, x.feed(-1, 0, 1, Integer.MIN_VALUE, i), 20 * i);
        }
        Check.due("feed 46", x.feed(0, 0, 0, 0, 0), -1);
        Check.due("feed leaves trouble()", x.trouble(), 6);
        Check.due("size(13)", x.size(13), 900);
        Check.refused(x, "laws(901)", x.laws(901), 2);
        Check.refused(x, "laws(-1)", x.laws(-1), 2);
        Check.due("size(13)", x.size(13), 900);
        Check.due("fault()", x.fault(), 0);
        Check.refused(x, "laws(900)", x.laws(900), 4);
        Check.due("where()", x.where(), 0);
        Check.due("fault()", x.fault(), 1);
        Check.due("size(13)", x.size(13), 0);
        Check.refused(x, "laws(1)", x.laws(1), 2);
        Check.due("where() behind 2", x.where(), -1);
        Check.due("fault() behind 2", x.fault(), 1);
        Check.due("a text of 900 bytes", Check.laws(x, T + "choice a" + " ".repeat(900 - 27)), 0);
        Check.due("fault() without one", x.fault(), 0);
    }

    private static void lawful() {
        WaverTax x = Check.under(P + "likes p b worth 7;reason p b at 3 odds 40 more 5;paid p 9 hour 0;"
            + "shop s crowd 4;shop u crowd 5;lane u s;far b a by 3");
        int[] due = {3, 2, 2, 1, 1, 1, 1, 2, 1, 0, 0, 0, 0, 0};
        for (int what = 0; what < due.length; what++) {
            Check.due("size(" + what + ")", x.size(what), due[what]);
        }
        Check.due("no blanks where nothing must be parted", Check.laws(x, "tax root3third2;choice a"), 0);
        Check.due("blanks all over", Check.laws(x, "   tax  root 003   third 02 ;  choice a  ;choice b  "), 0);
        Check.due("size(0)", x.size(0), 3);
        Check.due("size(1)", x.size(1), 2);
        Check.due("other words are names", Check.laws(x, T + "choice root;choice plain;person mad mad holds plain;"
            + "person holds child holds root;likes holds root worth 5;shop crowd crowd 5;choice abcdefgh"), 2);
        Check.due("person(0, 1)", x.person(0, 1), 1);
        Check.due("person(1, 0)", x.person(1, 0), 2);
        Check.due("worth(1, 0)", x.worth(1, 0), 5);
        Check.due("the first n bytes alone", lawsOf(x, AB + "nonsense", AB.length() - 1), 0);
        Check.due("the rest of the tape is gone", x.size(13), 0);
        Check.due("a WHOLE ends with the n bytes", lawsOf(x, T + "choice a;far a a by 1;tax root 555", 27), 0);
        Check.due("a WHOLE ends with the n bytes", lawsOf(x, AB + "far a b by 12345", AB.length() + 12), 0);
        Check.due("far(0, 1)", x.far(0, 1), 1);
        Check.due("a WORD ends with the n bytes", lawsOf(x, AB + "choice abcdefghijkl", AB.length() + 9), 0);
        Check.due("size(2)", x.size(2), 3);
        Check.due("names count anew", Check.laws(x, AB + "person p proud holds b"), 1);
    }

    private static int lawsOf(WaverTax x, String text, int n) {
        Check.feed(x, Check.bytes(text));
        return x.laws(n);
    }

    private static void limits() {
        StringBuilder text = new StringBuilder("tax root 0 third 1");
        for (char c = 'a'; c <= 'e'; c++) {
            text.append(";choice ").append(c);
        }
        String[] fars = {"a b", "a c", "a d", "a e", "b c", "b d", "b e", "c d", "c e", "e d"};
        for (String far : fars) {
            text.append(";far ").append(far).append(" by 9");
        }
        for (char p = 'p'; p <= 't'; p++) {
            text.append(";person ").append(p).append(" mad holds a");
        }
        for (int i = 0; i < 12; i++) {
            text.append(";likes ").append((char) ('p' + i / 5)).append(' ').append((char) ('a' + i % 5)).append(" worth 99");
        }
        WaverTax x = Check.under(text.toString());
        Check.due("size(4)", x.size(4), 12);
        Check.due("size(3)", x.size(3), 5);
        Check.due("far(4, 3)", x.far(4, 3), 9);
        String folk = P + "reason p a at 1 odds 0 more 1;reason p a at 12 odds 100 more 50;reason p a at 1 odds 0 more 1;"
            + "reason p b at 1 odds 50 more 1;paid p 0 hour 0;paid p 999 hour 1;paid p 5 hour 2;paid p 5 hour 98;paid p 5 hour 99";
        x = Check.under(folk);
        Check.due("size(5)", x.size(5), 4);
        Check.due("size(6)", x.size(6), 5);
        Check.fault(folk + ";reason p a at 1 odds 0 more 1", 5, folk.length() + 1);
        Check.fault(folk + ";paid p 5 hour 99", 5, folk.length() + 1);
        String likes = text.toString();
        Check.fault(likes + ";likes r c worth 1", 5, likes.length() + 1);
        Check.fault(likes + ";person x mad holds a", 5, likes.length() + 1);
        Check.fault(likes + ";choice x", 5, likes.length() + 1);
        Check.fault(likes + ";far a b by 9", 3, likes.length() + 7);
    }

    private static void form() {
        Check.fault("", 1, 0);
        Check.fault("   ", 1, 3);
        Check.fault("law", 1, 0);
        Check.fault(";", 1, 0);
        Check.fault("7", 1, 0);
        Check.fault("tax", 1, 3);
        Check.fault("tax  ", 1, 5);
        Check.fault("tax third", 1, 4);
        Check.fault("tax root x", 1, 9);
        Check.fault("tax root 3;", 1, 10);
        Check.fault("tax root 0003 third 2", 1, 9);
        Check.fault(T, 1, 19);
        Check.fault(T + ";", 1, 19);
        Check.fault("wax root 3 third 2;choice a", 1, 0);
        Check.fault(T + "choice", 1, 25);
        Check.fault(T + "choice ;", 1, 26);
        Check.fault(AB + "shop ;", 1, 42);
        Check.fault(AB + "person p holds a", 1, 46);
        Check.fault(AB + "person p", 1, 45);
        Check.fault(AB + "far a", 1, 42);
        Check.fault(T + "Choice a", 1, 19);
        Check.fault(T + "choice 7", 1, 26);
        Check.fault(T + "choice lane", 1, 26);
        Check.fault(T + "choice abcdefghi", 1, 26);
        Check.fault(T + "choice a b", 1, 28);
        Check.fault(T + "choice a\tb", 1, 27);
        Check.fault(T + "choice a" + (char) 225, 1, 27);
        Check.fault(T + "choice a;root", 1, 28);
        Check.fault(AB + "far a b 3", 1, 45);
        Check.fault(AB + "far a far by 3", 1, 43);
        Check.fault(AB + "far a b by by", 1, 48);
        Check.fault(AB + "person p plain a", 1, 52);
        Check.fault(AB + "person shop plain holds a", 1, 44);
        Check.fault(AB + "person p Plain holds a", 1, 46);
        Check.fault(P + "likes p paid worth 1", 1, 68);
        Check.fault(P + "likes p a 5", 1, 70);
        Check.fault(P + "reason p a odds 1", 1, 71);
        Check.fault(P + "reason p a at 1 more 1", 1, 76);
        Check.fault(P + "reason p a at 1 odds 1 ;", 1, 83);
        Check.fault(P + "paid p 5 at 6", 1, 69);
        Check.fault(P + "paid p 1000 hour 6", 1, 67);
        Check.fault(P + "shop s crowds 6", 1, 67);
        Check.fault(P + "shop s crowd", 1, 72);
        Check.fault(P + "shop s crowd 1;shop u crowd 1;lane s u 5", 1, 99);
    }

    private static void untold() {
        Check.fault(AB + "far a x by 1", 2, 43);
        Check.fault(AB + "far x a by 1", 2, 41);
        Check.fault(AB + "person p plain holds p", 2, 58);
        Check.fault(AB + "person p plain holds x", 2, 58);
        Check.fault(P + "far a p by 1", 2, 66);
        Check.fault(P + "likes q a worth 1", 2, 66);
        Check.fault(P + "likes p p worth 1", 2, 68);
        Check.fault(P + "reason a a at 1 odds 1 more 1", 2, 67);
        Check.fault(P + "reason p q at 1 odds 1 more 1", 2, 69);
        Check.fault(P + "paid b 5 hour 5", 2, 65);
        Check.fault(P + "shop s crowd 1;lane s p", 2, 82);
        Check.fault(P + "shop s crowd 1;lane p s", 2, 80);
        Check.fault(P + "lane s u;shop s crowd 1;shop u crowd 1", 2, 65);
        Check.fault(AB + "far a root by 1", 2, 43);
        Check.fault(AB + "far a aa by 1", 2, 43);
    }

    private static void again() {
        Check.fault(P + "choice p", 3, 67);
        Check.fault(P + "person p mad holds a", 3, 67);
        Check.fault(P + "person a mad holds a", 3, 67);
        Check.fault(P + "shop p crowd 5", 3, 65);
        Check.fault(P + "shop s crowd 5;choice s", 3, 82);
        Check.fault(AB + "far b b by 1", 3, 43);
        Check.fault(AB + "far a b by 1;far a b by 2", 3, 56);
        Check.fault(AB + "far a b by 1;far b a by 2", 3, 56);
        Check.fault(P + "likes p b worth 0;likes p b worth 1", 3, 86);
        Check.fault(P + "likes p b worth 0;likes p a worth 1;likes p b worth 0", 3, 104);
        Check.fault(P + "shop s crowd 1;shop u crowd 1;lane u u", 3, 97);
        Check.fault(P + "shop s crowd 1;shop u crowd 1;lane s u;lane u s", 3, 106);
        Check.fault(T + "choice a;tax root 99", 3, 28);
        Check.fault("tax root 3 third 2;tax", 3, 19);
    }

    private static void bounds() {
        Check.fault("tax root 10 third 2", 4, 9);
        Check.fault("tax root 9 third 5", 4, 17);
        Check.fault("tax root 9 third 0", 4, 17);
        Check.fault(AB + "far a b by 10", 4, 48);
        Check.fault(AB + "far a b by 0", 4, 48);
        Check.fault(P + "likes p a worth 100", 4, 76);
        Check.fault(P + "reason p a at 0 odds 1 more 1", 4, 74);
        Check.fault(P + "reason p a at 13 odds 1 more 1", 4, 74);
        Check.fault(P + "reason p a at 1 odds 101 more 1", 4, 81);
        Check.fault(P + "reason p a at 1 odds 1 more 51", 4, 88);
        Check.fault(P + "reason p a at 1 odds 1 more 0", 4, 88);
        Check.fault(P + "paid p 5 hour 100", 4, 74);
        Check.fault(P + "paid p 5 hour 7;paid p 5 hour 7", 4, 90);
        Check.fault(P + "paid p 5 hour 7;paid p 5 hour 6", 4, 90);
        Check.fault(P + "shop s crowd 100", 4, 73);
        Check.due("another person's hour", Check.laws(new WaverTax(),
            P + "person q mad holds a;paid p 5 hour 7;paid q 5 hour 7;paid p 5 hour 8"), 2);
    }

    private static void many() {
        String shops = T + "choice a";
        for (char s = 'm'; s <= 'r'; s++) {
            shops += ";shop " + s + " crowd 99";
        }
        Check.fault(shops + ";shop x", 5, shops.length() + 1);
        String lanes = shops;
        for (String lane : new String[] {"m n", "m o", "m p", "m q", "m r", "n o", "n p", "n q"}) {
            lanes += ";lane " + lane;
        }
        Check.due("eight lanes", Check.laws(new WaverTax(), lanes), 0);
        Check.fault(lanes + ";lane m m", 5, lanes.length() + 1);
        Check.fault(lanes + ";  lane", 5, lanes.length() + 3);
    }

    private static void lacks() {
        Check.fault("choice a;tax root 3 third 2", 6, 0);
        Check.fault("  shop", 6, 2);
        Check.fault("lane lane", 6, 0);
        Check.fault("tax root 3 third 2", 6, 18);
        Check.fault("tax root 3 third 2   ", 6, 21);
        Check.fault(T + "shop s crowd 5", 6, 33);
    }

    private static void leastOfOnePlace() {
        Check.fault(AB + "far x x by 1", 2, 41);
        Check.fault(P + "paid p 5 hour 99;paid p 5 hour 100", 4, 91);
        Check.fault(T, 1, 19);
    }

    private static void faultKeepsAll() {
        WaverTax x = Check.under(P + "likes p b worth 9");
        x.change(0, 1);
        x.mark();
        x.hours(2);
        Check.fault(x, "tax root 9 third 4;choice z;person y proud holds z;person y", 3, 58);
        Check.due("size(0)", x.size(0), 3);
        Check.due("size(3)", x.size(3), 1);
        Check.due("size(9)", x.size(9), 2);
        Check.due("size(11)", x.size(11), 2);
        Check.due("size(12)", x.size(12), 1);
        Check.due("person(0, 2)", x.person(0, 2), 1);
        Check.due("worth(0, 1)", x.worth(0, 1), 9);
        Check.due("fault() behind other calls", x.fault(), 3);
        Check.due("where() behind other calls", x.where(), -1);
        x.seed(77);
        Check.due("a new law", Check.laws(x, P + "likes p b worth 8"), 1);
        for (int what = 9; what <= 13; what++) {
            Check.due("size(" + what + ") of a new law", x.size(what), 0);
        }
        Check.due("person(0, 2)", x.person(0, 2), 0);
        Check.due("person(0, 3)", x.person(0, 3), 0);
        Check.due("person(0, 4)", x.person(0, 4), 0);
        Check.due("person(0, 5)", x.person(0, 5), -2);
        Check.due("far(0, 1)", x.far(0, 1), 1);
        Check.refused(x, "undo()", x.undo(), 6);
        Check.refused(x, "back(0)", x.back(0), 1);
        Check.fault(x, "nonsense", 1, 0);
        Check.due("where() stays behind calls without numbers", x.where(), 0);
        x.size(3);
        x.fault();
        x.feed(0, 0, 0, 0, 0);
        try {
            x.led(9);
        } catch (NoSuchElementException e) {
            Check.due("where() stays behind led()", x.where(), 0);
        }
    }

    private static void nothingOfAnotherLaw() {
        WaverTax x = Check.under("tax root 9 third 4;choice a;choice b;choice c;far a b by 9;far b c by 8;"
            + "person p proud holds c;person q mad holds a;likes p a worth 9;likes q b worth 8;"
            + "reason p b at 1 odds 100 more 9;paid q 0 hour 99;paid p 18 hour 99;"
            + "shop s crowd 9;shop u crowd 8;lane s u");
        Check.due("ask()", x.ask(), 0);
        x.hours(1);
        x.change(0, 1);
        // the first two texts may be kept somewhere; what is read third must not lie upon them
        for (int i = 0; i < 3; i++) {
            Check.due("laws", Check.laws(x, P + "person q plain holds b;likes p b worth 1;likes q a worth 1;far a b by 2;"
                + "reason p a at 2 odds 0 more 1;paid p 77 hour 0;shop m crowd 1;shop n crowd 1"), 2);
            Check.due("came(0)", x.came(0), 0);
            Check.due("far(0, 1)", x.far(0, 1), 2);
            Check.due("worth(0, 0)", x.worth(0, 0), 0);
            Check.due("worth(1, 1)", x.worth(1, 1), 0);
            Check.due("person(0, 0)", x.person(0, 0), 0);
            Check.due("catches(0)", x.catches(0), 1);
            Check.due("ask()", x.ask(), -2);
            int[] due = {3, 2, 2, 2, 2, 1, 1, 2, 0, 0, 0, 0, 0, 0};
            for (int what = 0; what < due.length; what++) {
                Check.due("size(" + what + ")", x.size(what), due[what]);
            }
        }
        for (int i = 0; i < 3; i++) {
            Check.due("laws", Check.laws(x, T + "choice a;choice b;choice c;person p plain holds a"), 1);
            Check.due("farthest()", x.farthest(), 1);
            Check.due("far(0, 1)", x.far(0, 1), 1);
            Check.due("worth(0, 1)", x.worth(0, 1), 0);
            for (int what = 4; what <= 13; what++) {
                Check.due("size(" + what + ")", x.size(what), 0);
            }
        }
    }
}
