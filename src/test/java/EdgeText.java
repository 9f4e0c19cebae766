/** Boundaries of Term I: the text of a law. */
final class EdgeText {
    private static final String I = "Term I";
    private static final String T = "tax root 3 third 2;";
    private static final String A = T + "choice a";
    private static final String AB = A + ";choice b";
    private static final String P = AB + ";person p plain holds a";
    private static final String SHOPS = A + ";shop m crowd 1;shop n crowd 1";

    private EdgeText() {
    }

    static void run() {
        tape();
        blanks();
        words();
        wholes();
        stops();
        lines();
        tax();
        choices();
        fars();
        people();
        likes();
        reasons();
        paid();
        shops();
        lanes();
        names();
        firstFromTheLeft();
        form();
        untold();
        again();
        bounds();
        many();
        lacks();
    }

    private static void tape() {
        Edge.of(I, "THE TEXT of a LAW (THE TAPE has 900 bytes");
        String text = A + " ".repeat(900 - A.length() - 9) + ";choice z";
        WaverTax x = Edge.law(text, 0);
        Edge.near("size(2): the line that ends with byte 900 is read", x.size(2), 2);
        Check.feed(x, Check.bytes(text));
        Edge.near("size(13)", x.size(13), 900);
        Edge.far("feed of 20 bytes more", x.feed(0, 0, 0, 0, 0), WaverTax.NONE);
        Edge.far("size(13)", x.size(13), 900);
    }

    private static void blanks() {
        Edge.of(I, "blanks, 32, part TOKENS and mean nothing else");
        WaverTax x = Edge.law("   tax  root   3 third     2   ;   choice    a   ", 0);
        Edge.near("size(0)", x.size(0), 3);
        x = Edge.law("tax root3third2;choice a", 0);
        Edge.near("size(1) without blanks", x.size(1), 2);
        for (int other : new int[] {0, 9, 10, 13, 31, 33, 127, 128, 160, 255}) {
            Edge.fault(T + "choice^" + (char) other + "a", 1);
        }
        Edge.fault(T + "^cho ice a", 1);
        Edge.fault("tax root 1 ^2 third 2;choice a", 1);
        Edge.fault(T + "choice a ^b", 1);
    }

    private static void words() {
        Edge.of(I, "TOKENS: WORDS of 1 to 8 small letters that stand together");
        Edge.law(T + "choice a", 0);
        Edge.law(T + "choice z", 0);
        Edge.law(T + "choice abcdefgz", 0);
        Edge.fault(T + "choice ^abcdefghi", 1);
        Edge.fault(T + "choice ^abcdefghijklmnopqrstuvwxyz", 1);
        Edge.fault(T + "^choiceeee a", 1);
        for (char other : new char[] {'`', '{', 'A', 'Z', '@', '[', '_', (char) 225, (char) 250}) {
            Edge.fault(T + "choice ^" + other, 1);
            Edge.fault(T + "choice a^" + other, 1);
        }
        WaverTax x = Edge.law(T + "choice abcdefgh;choice abcdefg", 0);
        Edge.near("size(2): seven letters are another word", x.size(2), 2);
        Edge.fault(T + "choice abcdefgh;choice ^abcdefgh", 3);
    }

    private static void wholes() {
        Edge.of(I, "WHOLES of 1 to 3 digits that do");
        Edge.near("size(0) of 9", Edge.law("tax root 9 third 1;choice a", 0).size(0), 9);
        Edge.near("size(0) of 09", Edge.law("tax root 09 third 1;choice a", 0).size(0), 9);
        Edge.near("size(0) of 009", Edge.law("tax root 009 third 001;choice a", 0).size(0), 9);
        Edge.fault("tax root ^0009 third 1;choice a", 1);
        Edge.fault("tax root ^third 1;choice a", 1);
        for (char other : new char[] {'/', ':', '-', '+', (char) 178, (char) 185}) {
            Edge.fault("tax root ^" + other + " third 1;choice a", 1);
            Edge.fault("tax root 1^" + other + " third 1;choice a", 1);
        }
        Edge.near("worth(0, 0) of three digits", Edge.law(P + ";likes p a worth 099", 1).worth(0, 0), 99);
        Edge.near("paid of 999", Edge.law(P + ";paid p 999 hour 0", 1).size(6), 1);
    }

    private static void stops() {
        Edge.of(I, "single ones of ;)");
        Edge.near("size(2)", Edge.law(A + ";choice b", 0).size(2), 2);
        Edge.near("size(2) with blanks about", Edge.law(A + " ; choice b", 0).size(2), 2);
        Edge.fault(A + ";^;choice b", 1);
        Edge.fault(A + "; ^;choice b", 1);
        Edge.fault(A + "^:choice b", 1);
        Edge.fault(A + "^<choice b", 1);
        Edge.fault(A + "^,choice b", 1);
    }

    private static void lines() {
        Edge.of(I, "LINE {; LINE}. LINE, one of:");
        Edge.law(A, 0);
        Edge.fault("^", 1);
        Edge.fault("     ^", 1);
        Edge.fault("^;" + A, 1);
        Edge.fault(A + ";^", 1);
        Edge.fault(A + ";  ^", 1);
        Edge.fault(A + " ^choice b", 1);
        Edge.fault(A + ";^law b", 1);
        Edge.fault(A + ";^7", 1);
        Edge.fault(A + ";^choices b", 1);
        Edge.fault(A + ";^choic b", 1);
    }

    private static void tax() {
        Edge.of(I, "tax root WHOLE third WHOLE (0 .. 9 hours; 1 .. 4 times), ahead of all others");
        Edge.near("size(0) of 0", Edge.law("tax root 0 third 2;choice a", 0).size(0), 0);
        Edge.near("size(0) of 9", Edge.law("tax root 9 third 2;choice a", 0).size(0), 9);
        Edge.fault("tax root ^10 third 2;choice a", 4);
        Edge.fault("tax root ^999 third 2;choice a", 4);
        Edge.near("size(1) of 1", Edge.law("tax root 3 third 1;choice a", 0).size(1), 1);
        Edge.near("size(1) of 4", Edge.law("tax root 3 third 4;choice a", 0).size(1), 4);
        Edge.fault("tax root 3 third ^0;choice a", 4);
        Edge.fault("tax root 3 third ^5;choice a", 4);
        Edge.fault("tax root 3 third ^999;choice a", 4);
        Edge.fault("^choice a;tax root 3 third 2", 6);
        Edge.fault("tax ^third 2 root 3;choice a", 1);
        Edge.fault("tax root 3 ^2;choice a", 1);
    }

    private static void choices() {
        Edge.of(I, "choice NAME (up to 5)");
        String five = T + "choice a;choice b;choice c;choice d;choice e";
        Edge.near("size(2)", Edge.law(five, 0).size(2), 5);
        Edge.fault(five + ";^choice f", 5);
        Edge.near("size(2) of one", Edge.law(A, 0).size(2), 1);
    }

    private static void fars() {
        Edge.of(I, "or far CHOICE CHOICE by WHOLE (unlike; once in whatever order; 1 .. 9; choices not told of so are 1 far)");
        String abc = AB + ";choice c";
        Edge.near("far(0, 1) by 1", Edge.law(abc + ";far a b by 1", 0).far(0, 1), 1);
        Edge.near("far(0, 1) by 9", Edge.law(abc + ";far b a by 9", 0).far(0, 1), 9);
        Edge.near("far(1, 0) by 9", Edge.law(abc + ";far a b by 9", 0).far(1, 0), 9);
        Edge.fault(abc + ";far a b by ^0", 4);
        Edge.fault(abc + ";far a b by ^10", 4);
        Edge.fault(abc + ";far c ^c by 3", 3);
        Edge.law(abc + ";far a b by 3;far a c by 3;far b c by 3", 0);
        Edge.fault(abc + ";far a b by 3;far a ^b by 3", 3);
        Edge.fault(abc + ";far a b by 1;far b ^a by 1", 3);
        WaverTax x = Edge.law(abc + ";far a b by 2", 0);
        Edge.near("far(0, 1), told", x.far(0, 1), 2);
        Edge.near("far(0, 2), not told", x.far(0, 2), 1);
        Edge.near("far(2, 1), not told", x.far(2, 1), 1);
        String all = T + "choice a;choice b;choice c;choice d;choice e;far a b by 2;far a c by 3;far a d by 4;far a e by 5;"
            + "far b c by 6;far b d by 7;far b e by 8;far c d by 9;far c e by 2";
        Edge.near("far(4, 3): all but these two are told", Edge.law(all, 0).far(4, 3), 1);
        Edge.near("far(4, 3): all are told", Edge.law(all + ";far e d by 3", 0).far(4, 3), 3);
    }

    private static void people() {
        Edge.of(I, "person NAME SORT holds CHOICE (SORT: plain, mad, child, or proud; up to 5)");
        String four = AB + ";person p plain holds a;person q mad holds b;person r child holds a;person s proud holds b";
        WaverTax x = Edge.law(four, 4);
        for (int p = 0; p < 4; p++) {
            Edge.near("person(" + p + ", 0)", x.person(p, 0), p);
            Edge.near("person(" + p + ", 1)", x.person(p, 1), p % 2);
        }
        Edge.law(AB, 0);
        Edge.law(four + ";person t proud holds b", 5);
        Edge.fault(four + ";person t proud holds b;^person u plain holds a", 5);
        Edge.fault(AB + ";person p ^odd holds a", 1);
        Edge.fault(AB + ";person p ^plains holds a", 1);
        Edge.fault(AB + ";person p ^plai holds a", 1);
        Edge.fault(AB + ";person p ^holds a", 1);
        Edge.fault(AB + ";person p ^3 holds a", 1);
    }

    private static void likes() {
        Edge.of(I, "or likes PERSON CHOICE worth WHOLE (once for each two; 0 .. 99; 0 if not told; up to 12)");
        String folk = T + "choice a;choice b;choice c;choice d;choice e;person p plain holds a;person q mad holds b;person r child holds c";
        WaverTax x = Edge.law(folk + ";likes p a worth 0;likes p b worth 99;likes q a worth 98", 3);
        Edge.near("worth(0, 0) of 0", x.worth(0, 0), 0);
        Edge.near("worth(0, 1) of 99", x.worth(0, 1), 99);
        Edge.near("worth(1, 0): another one likes it too", x.worth(1, 0), 98);
        Edge.near("worth(2, 4), not told", x.worth(2, 4), 0);
        Edge.fault(folk + ";likes p a worth ^100", 4);
        Edge.fault(folk + ";likes p a worth 0;likes p ^a worth 0", 3);
        Edge.fault(folk + ";likes p a worth 5;likes q a worth 5;likes p b worth 5;likes p ^a worth 5", 3);
        String twelve = folk;
        for (int i = 0; i < 12; i++) {
            twelve += ";likes " + (char) ('p' + i / 5) + " " + (char) ('a' + i % 5) + " worth " + i;
        }
        x = Edge.law(twelve, 3);
        Edge.near("size(4)", x.size(4), 12);
        Edge.near("worth(2, 1) of the twelfth", x.worth(2, 1), 11);
        Edge.fault(twelve + ";^likes r c worth 12", 5);
    }

    private static void reasons() {
        Edge.of(I, "reason PERSON CHOICE at WHOLE odds WHOLE more WHOLE (hour 1 .. 12; 0 .. 100 in a hundred; 1 .. 50; up to 4)");
        WaverTax x = Edge.law(P + ";reason p a at 1 odds 100 more 1;reason p b at 12 odds 100 more 50;reason p a at 1 odds 0 more 50", 1);
        Edge.near("hours(1): the one of hour 1", x.hours(1), 1);
        Edge.near("came(0) of 100 in a hundred", x.came(0), 1);
        Edge.near("came(2) of 0 in a hundred", x.came(2), 0);
        Edge.near("hours(10): none of hours 2 to 11", x.hours(10), 0);
        Edge.near("hours(1): the one of hour 12", x.hours(1), 1);
        Edge.near("worth(0, 0), 1 more", x.worth(0, 0), 1);
        Edge.near("worth(0, 1), 50 more", x.worth(0, 1), 50);
        Edge.fault(P + ";reason p a at ^0 odds 5 more 5", 4);
        Edge.fault(P + ";reason p a at ^13 odds 5 more 5", 4);
        Edge.fault(P + ";reason p a at 5 odds ^101 more 5", 4);
        Edge.fault(P + ";reason p a at 5 odds 5 more ^0", 4);
        Edge.fault(P + ";reason p a at 5 odds 5 more ^51", 4);
        String three = P + ";reason p a at 5 odds 5 more 5;reason p a at 5 odds 5 more 5;reason p a at 5 odds 5 more 5";
        Edge.near("size(5): one may be told again", Edge.law(three + ";reason p a at 5 odds 5 more 5", 1).size(5), 4);
        Edge.fault(three + ";reason p a at 5 odds 5 more 5;^reason p a at 5 odds 5 more 5", 5);
    }

    private static void paid() {
        Edge.of(I, "paid PERSON WHOLE hour WHOLE (0 .. 999; 0 .. 99, for one person later than those told ahead; up to 5)");
        Edge.law(P + ";paid p 0 hour 0;paid p 999 hour 99", 1);
        Edge.fault(P + ";paid p ^1000 hour 0", 1);
        Edge.fault(P + ";paid p 0 hour ^100", 4);
        Edge.law(P + ";paid p 5 hour 7;paid p 5 hour 8", 1);
        Edge.fault(P + ";paid p 5 hour 7;paid p 5 hour ^7", 4);
        Edge.fault(P + ";paid p 5 hour 7;paid p 5 hour ^6", 4);
        Edge.fault(P + ";paid p 5 hour 0;paid p 5 hour ^0", 4);
        String two = P + ";person q mad holds a";
        Edge.law(two + ";paid p 5 hour 7;paid q 5 hour 7;paid p 5 hour 8", 2);
        Edge.law(two + ";paid p 5 hour 7;paid q 5 hour 0", 2);
        Edge.fault(two + ";paid p 5 hour 7;paid q 5 hour 3;paid p 5 hour ^5", 4);
        String four = two + ";paid p 5 hour 1;paid q 5 hour 1;paid p 5 hour 2;paid q 5 hour 2";
        Edge.near("size(6)", Edge.law(four + ";paid p 5 hour 3", 2).size(6), 5);
        Edge.fault(four + ";paid p 5 hour 3;^paid q 5 hour 3", 5);
    }

    private static void shops() {
        Edge.of(I, "shop NAME crowd WHOLE (0 .. 99; up to 6)");
        WaverTax x = Edge.law(A + ";shop m crowd 0;shop n crowd 99", 0);
        Edge.near("catches(0) of 0", x.catches(0), 0);
        Edge.near("catches(1) of 99", x.catches(1), 99);
        Edge.fault(A + ";shop m crowd ^100", 4);
        String six = A;
        for (char s = 'm'; s <= 'r'; s++) {
            six += ";shop " + s + " crowd 5";
        }
        Edge.near("size(7)", Edge.law(six, 0).size(7), 6);
        Edge.fault(six + ";^shop s crowd 5", 5);
    }

    private static void lanes() {
        Edge.of(I, "or lane SHOP SHOP (unlike; once in whatever order; up to 8)");
        Edge.near("size(8)", Edge.law(SHOPS + ";lane m n", 0).size(8), 1);
        Edge.fault(SHOPS + ";lane m ^m", 3);
        Edge.fault(SHOPS + ";lane m n;lane m ^n", 3);
        Edge.fault(SHOPS + ";lane m n;lane n ^m", 3);
        Edge.law(SHOPS + ";shop o crowd 5;lane m n;lane n o;lane o m", 0);
        String eight = SHOPS + ";shop o crowd 5;shop p crowd 5;shop q crowd 5";
        for (String lane : new String[] {"m n", "m o", "m p", "m q", "n o", "n p", "n q", "o p"}) {
            eight += ";lane " + lane;
        }
        Edge.near("size(8)", Edge.law(eight, 0).size(8), 8);
        Edge.fault(eight + ";^lane o q", 5);
    }

    private static void names() {
        Edge.of(I, "NAMES are WORDS but tax, choice, far, person, likes, reason, paid, shop, lane; each told once, ahead of its use.");
        for (String word : new String[] {"tax", "choice", "far", "person", "likes", "reason", "paid", "shop", "lane"}) {
            Edge.fault(T + "choice ^" + word, 1);
            Edge.fault(AB + ";person ^" + word + " plain holds a", 1);
            Edge.fault(A + ";shop ^" + word + " crowd 1", 1);
            Edge.fault(AB + ";far ^" + word + " b by 1", 1);
            Edge.fault(AB + ";far a ^" + word + " by 1", 1);
            Edge.fault(AB + ";person p plain holds ^" + word, 1);
            Edge.fault(P + ";likes ^" + word + " a worth 1", 1);
            Edge.fault(P + ";paid ^" + word + " 1 hour 1", 1);
            Edge.fault(SHOPS + ";lane m ^" + word, 1);
            if (word.length() < 8) {
                Edge.law(T + "choice " + word + "x", 0);
            }
            Edge.law(T + "choice " + word.substring(1), 0);
        }
        for (String word : new String[] {"root", "third", "by", "holds", "plain", "mad", "child", "proud", "worth", "at",
            "odds", "more", "hour", "crowd"}) {
            Edge.law(T + "choice " + word + ";person x mad holds " + word + ";likes x " + word + " worth 1", 1);
            Edge.law(A + ";person " + word + " mad holds a;likes " + word + " a worth 1;paid " + word + " 1 hour 1", 1);
            Edge.law(SHOPS + ";shop " + word + " crowd 1;lane m " + word, 0);
        }
        Edge.fault(A + ";choice ^a", 3);
        Edge.fault(A + ";person p plain holds ^b;choice b", 2);
        Edge.law(A + ";choice b;person p plain holds b", 1);
    }

    private static void firstFromTheLeft() {
        Edge.of(I, "FAULTS, the first that is met from the left, of one place the least number");
        Edge.fault("tax root ^10 third 5;choice A", 4);
        Edge.fault("tax root 9 third ^5;choice A", 4);
        Edge.fault("tax root 9 third 4;choice ^A", 1);
        Edge.near("all of them mended", Check.laws(new WaverTax(), "tax root 9 third 4;choice a"), 0);
        Edge.fault(AB + ";far a ^x by 0", 2);
        Edge.fault(AB + ";far ^x x by 0", 2);
        Edge.fault(AB + ";far a ^a by 0", 3);
        Edge.fault(AB + ";far a b by ^0;nonsense", 4);
        Edge.fault(P + ";likes p ^x", 2);
        Edge.fault(P + ";paid p 1 ^hours 100", 1);
        // at the end both a LINE and a choice are lacking: FORM is the lesser number
        Edge.fault(T + "^", 1);
        Edge.fault("tax root 3 third 2^", 6);
        // one byte that begins no TOKEN, behind a fault that lies farther left
        Edge.fault("^choice a\t", 6);
        Edge.fault(AB + ";far a ^a\t", 3);
        Edge.fault(P + ";paid p 5 hour 7;paid p 5 hour ^6\t", 4);
    }

    private static void form() {
        Edge.of(I, "1 FORM: the first byte that begins no TOKEN, or TOKEN with which no LAW goes on (the end: its place).");
        String whole = P + ";likes p b worth 5;reason p b at 1 odds 5 more 5;paid p 5 hour 5;shop m crowd 5;shop n crowd 5;"
            + "lane m n;far a b by 5";
        Edge.law(whole, 1);
        for (String[] tail : new String[][] {
            {"tax", "3"}, {"choice", "r"}, {"far", "5"}, {"far a", "5"}, {"far a b", "at"}, {"far a b by", "b"},
            {"person", "5"}, {"person r", "holds"}, {"person r mad", "hold"}, {"person r mad holds", "5"},
            {"likes", "5"}, {"likes p", "5"}, {"likes p a", "5"}, {"likes p a worth", "p"},
            {"reason", "5"}, {"reason p", "5"}, {"reason p a", "5"}, {"reason p a at", "a"}, {"reason p a at 1", "5"},
            {"reason p a at 1 odds", "a"}, {"reason p a at 1 odds 1", "5"}, {"reason p a at 1 odds 1 more", "a"},
            {"paid", "5"}, {"paid p", "p"}, {"paid p 5", "5"}, {"paid p 5 hour", "a"},
            {"shop", "5"}, {"shop r", "5"}, {"shop r crowd", "a"}, {"lane", "5"}, {"lane m", "5"}}) {
            if (tail[0].equals("tax")) {
                Edge.fault("tax^", 1);
                Edge.fault("tax ^3", 1);
            } else if (tail[0].equals("choice")) {
                Edge.fault(whole + ";choice^", 1);
                Edge.fault(whole + ";choice ^;", 1);
            } else {
                String known = P + ";shop m crowd 5;shop n crowd 5;";
                Edge.fault(known + tail[0] + "^", 1);
                Edge.fault(known + tail[0] + "   ^", 1);
                Edge.fault(known + tail[0] + " ^;", 1);
                Edge.fault(known + tail[0] + " ^" + tail[1], 1);
                Edge.fault(known + tail[0] + " ^\t", 1);
            }
        }
        everyWordOfALine();
        Edge.fault("tax root^", 1);
        Edge.fault("tax root 3^", 1);
        Edge.fault("tax root 3 third^", 1);
        Edge.fault(whole + " ^5", 1);
        Edge.fault(P + " ^a", 1);
        Edge.fault(SHOPS + ";lane m n ^n", 1);
    }

    /** Of each line each word that is no name, with another first letter, another last one, one more and one less. */
    private static void everyWordOfALine() {
        String known = P + ";shop m crowd 5;shop n crowd 5;";
        for (String line : new String[] {"tax root 3 third 2", "choice r", "far a b by 1", "person r plain holds a", "person r mad holds a",
            "person r child holds a", "person r proud holds a", "likes p a worth 1", "reason p a at 1 odds 1 more 1",
            "paid p 1 hour 1", "shop r crowd 1", "lane m n"}) {
            String ahead = line.startsWith("tax") ? "" : known;
            String behind = line.startsWith("tax") ? ";choice a" : "";
            Edge.near("laws of " + ahead + line + behind, Check.laws(new WaverTax(), ahead + line + behind) >= 0, true);
            String[] tokens = line.split(" ");
            for (int i = 0; i < tokens.length; i++) {
                String word = tokens[i];
                if (word.length() > 1) {
                    int last = word.length() - 1;
                    for (String other : new String[] {"z" + word.substring(1), word.substring(0, last) + "z", word + "z", word.substring(0, last)}) {
                        tokens[i] = "^" + other;
                        Edge.fault(ahead + String.join(" ", tokens) + behind, 1);
                    }
                    tokens[i] = word;
                }
            }
        }
    }

    private static void untold() {
        Edge.of(I, "2 a NAME that isn't told, or is of another sort than must stand there; at it.");
        String all = P + ";shop m crowd 5;shop n crowd 5;";
        String[] choiceLines = {"far # b by 1", "far a # by 1", "person q mad holds #", "likes p # worth 1", "reason p # at 1 odds 1 more 1"};
        for (String line : choiceLines) {
            Edge.law(all + line.replace("#", line.startsWith("far a") ? "b" : "a"), line.startsWith("person") ? 2 : 1);
            for (String wrong : new String[] {"x", "p", "m", "aa", "root"}) {
                Edge.fault(all + line.replace("#", "^" + wrong), 2);
            }
        }
        Edge.fault(all + "person q mad holds ^q", 2);
        String[] personLines = {"likes # a worth 1", "reason # a at 1 odds 1 more 1", "paid # 1 hour 1"};
        for (String line : personLines) {
            Edge.law(all + line.replace("#", "p"), 1);
            for (String wrong : new String[] {"x", "a", "m", "pp", "mad"}) {
                Edge.fault(all + line.replace("#", "^" + wrong), 2);
            }
        }
        for (String line : new String[] {"lane # n", "lane m #"}) {
            Edge.law(all + line.replace("#", line.startsWith("lane m") ? "n" : "m"), 1);
            for (String wrong : new String[] {"x", "a", "p", "mm", "crowd"}) {
                Edge.fault(all + line.replace("#", "^" + wrong), 2);
            }
        }
    }

    private static void again() {
        Edge.of(I, "3 a NAME told again; at it");
        String all = P + ";shop m crowd 5;";
        Edge.law(all + "choice c;person q mad holds c;shop n crowd 5", 2);
        for (String told : new String[] {"a", "p", "m"}) {
            Edge.fault(all + "choice ^" + told, 3);
            Edge.fault(all + "person ^" + told + " mad holds a", 3);
            Edge.fault(all + "shop ^" + told + " crowd 5", 3);
        }
        Edge.of(I, "a second CHOICE, SHOP that is the first, or of which with the first such a LINE is told already; at it");
        Edge.law(AB + ";far a b by 1", 0);
        Edge.fault(AB + ";far b ^b by 1", 3);
        Edge.fault(AB + ";far a b by 1;far b ^a by 2", 3);
        Edge.law(SHOPS + ";lane n m", 0);
        Edge.fault(SHOPS + ";lane n ^n", 3);
        Edge.fault(SHOPS + ";lane n m;lane m ^n", 3);
        Edge.of(I, "a CHOICE that this PERSON likes already; at it");
        Edge.law(P + ";person q mad holds a;likes p a worth 1;likes p b worth 1;likes q a worth 1", 2);
        Edge.fault(P + ";likes p a worth 0;likes p ^a worth 1", 3);
        Edge.of(I, "a second tax: at that WORD.");
        Edge.law(A, 0);
        Edge.fault(T + "^tax root 3 third 2;choice a", 3);
        Edge.fault(A + ";  ^tax", 3);
        Edge.fault(A + ";^tax root 99", 3);
    }

    private static void bounds() {
        Edge.of(I, "4 a WHOLE out of bounds; at it; an hour not later: at it.");
        Edge.law(P + ";paid p 5 hour 98;paid p 5 hour 99", 1);
        Edge.fault(P + ";paid p 5 hour 99;paid p 5 hour ^99", 4);
        Edge.fault(P + ";paid p 5 hour 99;paid p 5 hour ^100", 4);
        Edge.fault(P + ";paid p 5 hour 10;paid p 5 hour ^9", 4);
        Edge.fault(P + ";shop m crowd   ^100", 4);
        Edge.fault(P + ";shop m crowd ^100 100", 4);
    }

    private static void many() {
        Edge.of(I, "5 MANY: a LINE more of its sort than there is room for, at its first WORD.");
        String five = T + "choice a;choice b;choice c;choice d;choice e";
        Edge.law(five + ";person p mad holds a", 1);
        // the LINE's first WORD lies ahead of whatever else is wrong in it
        Edge.fault(five + ";^choice", 5);
        Edge.fault(five + ";^choice a", 5);
        Edge.fault(five + ";  ^choice 7", 5);
        Edge.fault(five + ";^choice\t", 5);
        String people = five + ";person p mad holds a;person q mad holds a;person r mad holds a;person s mad holds a;person t mad holds a";
        Edge.law(people, 5);
        Edge.fault(people + ";^person p", 5);
        Edge.fault(people + ";^person person", 5);
        // another sort still has room
        Edge.fault(people + ";far a ^a by 1", 3);
        Edge.law(people + ";far a b by 1;shop m crowd 1", 5);
    }

    private static void lacks() {
        Edge.of(I, "6 LACKS: any LINE ahead of the tax; at its WORD; at the end: no choice.");
        Edge.law(A, 0);
        for (String line : new String[] {"choice a", "far a b by 1", "person p mad holds a", "likes p a worth 1",
            "reason p a at 1 odds 1 more 1", "paid p 1 hour 1", "shop m crowd 1", "lane m n"}) {
            Edge.fault("^" + line + ";" + A, 6);
            Edge.fault("  ^" + line.substring(0, line.indexOf(' ')), 6);
        }
        Edge.fault("tax root 3 third 2^", 6);
        Edge.fault("tax root 3 third 2  ^", 6);
        Edge.fault(T + "shop m crowd 1;shop n crowd 1;lane m n^", 6);
        Edge.law(T + "shop m crowd 1;choice a", 0);
    }
}
