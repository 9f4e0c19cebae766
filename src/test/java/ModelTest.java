import java.math.BigInteger;
import java.util.ArrayDeque;
import java.util.ArrayList;
import java.util.Arrays;
import java.util.List;
import java.util.Random;

/** Random laws and calls, against a second reckoning that is written otherwise and as plainly as can be. */
public final class ModelTest {
    private static final String[] SORTS = {"plain", "mad", "child", "proud"};

    /** A mean, always in lowest terms. */
    private record Mean(BigInteger upper, BigInteger lower) {
        static Mean of(long upper, long lower) {
            return new Mean(BigInteger.valueOf(upper), BigInteger.valueOf(lower)).lowest();
        }

        Mean lowest() {
            BigInteger g = upper.gcd(lower);
            return new Mean(upper.divide(g), lower.divide(g));
        }

        Mean plus(Mean o) {
            return new Mean(upper.multiply(o.lower).add(o.upper.multiply(lower)), lower.multiply(o.lower)).lowest();
        }

        Mean times(Mean o) {
            return new Mean(upper.multiply(o.upper), lower.multiply(o.lower)).lowest();
        }

        boolean above(Mean o) {
            return upper.multiply(o.lower).compareTo(o.upper.multiply(lower)) > 0;
        }
    }

    private record Reason(int person, int choice, int hour, int odds, int more) { }

    private record Receipt(int person, int amount, int hour) { }

    /** How one stands; reasons that came are told one by one. */
    private record Stand(int held, int changes, int paid, int latest) { }

    private record World(int hour, int seed, List<Stand> stands, List<Boolean> came) { }

    private final Random random;
    private final StringBuilder text = new StringBuilder();
    private int root;
    private int third;
    private int choices;
    private int people;
    private final int[][] far = new int[5][5];
    private final int[] sort = new int[5];
    private final int[] first = new int[5];
    private final int[][] worth = new int[5][5];
    private int liked;
    private final List<Reason> reasons = new ArrayList<>();
    private final List<Receipt> receipts = new ArrayList<>();
    private final List<Integer> crowds = new ArrayList<>();
    private final boolean[][] lane = new boolean[6][6];
    private int lanes;
    private World world;
    private final ArrayDeque<World> past = new ArrayDeque<>();
    private final List<World> marks = new ArrayList<>();

    private ModelTest(Random random) {
        this.random = random;
        tellLaw();
    }

    public static void main(String[] args) {
        for (int run = 0; run < 1600; run++) {
            ModelTest model = new ModelTest(new Random(1000 + run));
            model.live(run);
        }
        Check.end();
    }

    // ---- a law by chance

    private int upTo(int most) {
        return random.nextInt(most + 1);
    }

    private void tellLaw() {
        root = upTo(9);
        third = 1 + upTo(3);
        text.append("tax root ").append(root).append(" third ").append(third);
        choices = 1 + upTo(4);
        people = random.nextInt(8) == 0 ? 0 : 1 + upTo(4);
        for (int c = 0; c < choices; c++) {
            text.append(";choice c").append((char) ('a' + c));
        }
        for (int c = 0; c < 5; c++) {
            for (int d = 0; d < 5; d++) {
                far[c][d] = c == d ? 0 : 1;
            }
        }
        for (int c = 0; c < choices; c++) {
            for (int d = 0; d < c; d++) {
                if (random.nextInt(4) > 0) {
                    tellFar(c, d);
                }
            }
        }
        for (int p = 0; p < people; p++) {
            sort[p] = random.nextInt(3) == 0 ? upTo(3) : random.nextBoolean() ? 0 : 3;
            first[p] = upTo(choices - 1);
            text.append(";person ").append(p(p)).append(' ').append(SORTS[sort[p]]).append(" holds ").append(c(first[p]));
        }
        tellLikes();
        tellReasons();
        tellReceipts();
        tellShops();
        List<Stand> stands = new ArrayList<>();
        for (int p = 0; p < people; p++) {
            stands.add(new Stand(first[p], 0, 0, -2));
        }
        List<Boolean> came = new ArrayList<>();
        reasons.forEach(r -> came.add(false));
        world = new World(0, 0, stands, came);
    }

    private static String p(int p) {
        return "p" + (char) ('a' + p);
    }

    private static String c(int c) {
        return "c" + (char) ('a' + c);
    }

    private void tellFar(int c, int d) {
        far[c][d] = far[d][c] = 1 + upTo(8);
        text.append(";far ").append(c(c)).append(' ').append(c(d)).append(" by ").append(far[c][d]);
    }

    private void tellLikes() {
        int most = random.nextBoolean() ? 99 : 20;
        for (int p = 0; p < people; p++) {
            for (int c = 0; c < choices; c++) {
                if (liked < 12 && random.nextInt(3) > 0 && text.length() < 560) {
                    worth[p][c] = upTo(most);
                    liked++;
                    text.append(";likes ").append(p(p)).append(' ').append(c(c)).append(" worth ").append(worth[p][c]);
                }
            }
        }
    }

    private void tellReasons() {
        int count = people == 0 ? 0 : upTo(4);
        for (int k = 0; k < count; k++) {
            Reason r = new Reason(random.nextInt(3) == 0 ? upTo(people - 1) : 0, upTo(choices - 1),
                random.nextInt(3) == 0 ? 1 + upTo(11) : 1 + upTo(2), random.nextInt(5) == 0 ? 100 * upTo(1) : upTo(100),
                1 + upTo(49));
            reasons.add(r);
            text.append(";reason ").append(p(r.person)).append(' ').append(c(r.choice)).append(" at ").append(r.hour)
                .append(" odds ").append(r.odds).append(" more ").append(r.more);
        }
    }

    /** Receipts that are true of some changes, most of the time. */
    private void tellReceipts() {
        int count = people == 0 || choices == 1 ? 0 : upTo(5);
        Stand[] stands = new Stand[5];
        for (int p = 0; p < people; p++) {
            stands[p] = new Stand(first[p], 0, 0, -2);
        }
        for (int k = 0; k < count; k++) {
            int p = random.nextInt(3) > 0 ? 0 : upTo(people - 1);
            int to = (stands[p].held + 1 + upTo(choices - 2)) % choices;
            int hour = Math.max(stands[p].latest, -1) + 1 + upTo(5);
            int tax = taxOf(p, stands[p], hour, to, far, third);
            int amount = random.nextInt(12) == 0 ? upTo(30) : tax;
            receipts.add(new Receipt(p, amount, hour));
            stands[p] = new Stand(to, stands[p].changes + 1, 0, hour);
            text.append(";paid ").append(p(p)).append(' ').append(amount).append(" hour ").append(hour);
        }
    }

    private void tellShops() {
        int count = upTo(6);
        for (int s = 0; s < count && text.length() < 800; s++) {
            crowds.add(random.nextInt(3) == 0 ? 5 * upTo(1) : upTo(99));
            text.append(";shop ").append((char) ('a' + s)).append(" crowd ").append(crowds.get(s));
        }
        for (int i = 0; i < 14 && lanes < 8 && crowds.size() > 1 && text.length() < 880; i++) {
            int a = upTo(crowds.size() - 1);
            int b = upTo(crowds.size() - 1);
            if (a != b && !lane[a][b]) {
                lane[a][b] = lane[b][a] = true;
                lanes++;
                text.append(";lane ").append((char) ('a' + a)).append(' ').append((char) ('a' + b));
            }
        }
    }

    // ---- the second reckoning

    private int taxOf(int p, Stand s, int hour, int to, int[][] apart, int times) {
        if (to == s.held || sort[p] == 1 || sort[p] == 2) {
            return 0;
        }
        int tax = apart[s.held][to];
        tax *= s.changes > 0 && s.latest + root > hour ? 2 : 1;
        tax *= s.changes + 1 >= 3 ? times : 1;
        tax = to == first[p] ? Math.floorDiv(tax, 2) : tax;
        return sort[p] == 3 ? tax + tax : tax;
    }

    private int tax(World w, int p, int to) {
        return taxOf(p, w.stands.get(p), w.hour, to, far, third);
    }

    private int worthOf(int p, int c, List<Boolean> came) {
        int sum = worth[p][c];
        for (int k = 0; k < reasons.size(); k++) {
            Reason r = reasons.get(k);
            sum += came.get(k) && r.person == p && r.choice == c ? r.more : 0;
        }
        return sum;
    }

    private int chooses(World w, int p, int[][] apart, int times) {
        Stand s = w.stands.get(p);
        int[] net = new int[choices];
        for (int c = 0; c < choices; c++) {
            net[c] = worthOf(p, c, w.came) - taxOf(p, s, w.hour, c, apart, times);
        }
        int most = Arrays.stream(net).max().getAsInt();
        if (net[s.held] == most) {
            return s.held;
        }
        int c = 0;
        while (net[c] != most) {
            c++;
        }
        return c;
    }

    private static World with(World w, int p, Stand s) {
        List<Stand> stands = new ArrayList<>(w.stands);
        stands.set(p, s);
        return new World(w.hour, w.seed, stands, w.came);
    }

    private World changed(World w, int p, int c) {
        Stand s = w.stands.get(p);
        return with(w, p, new Stand(c, s.changes + 1, s.paid + tax(w, p, c), w.hour));
    }

    private World nextHour(World w) {
        int seed = w.seed;
        List<Boolean> came = new ArrayList<>(w.came);
        for (int k = 0; k < reasons.size(); k++) {
            if (reasons.get(k).hour == w.hour + 1) {
                seed = (int) ((75L * seed + 74) % 65537);
                came.set(k, seed % 100 < reasons.get(k).odds);
            }
        }
        return new World(w.hour + 1, seed, w.stands, came);
    }

    private Mean planBy(World w, int p, int n, int c) {
        Mean has = Mean.of(worthOf(p, c, w.came) - tax(w, p, c), 1);
        if (n == 1) {
            return has;
        }
        World then = c == w.stands.get(p).held ? w : changed(w, p, c);
        then = new World(w.hour + 1, 0, then.stands, then.came);
        List<Integer> may = new ArrayList<>();
        for (int k = 0; k < reasons.size(); k++) {
            if (reasons.get(k).person == p && reasons.get(k).hour == then.hour) {
                may.add(k);
            }
        }
        for (int bits = 0; bits < 1 << may.size(); bits++) {
            Mean chance = Mean.of(1, 1);
            List<Boolean> came = new ArrayList<>(then.came);
            for (int i = 0; i < may.size(); i++) {
                int odds = reasons.get(may.get(i)).odds;
                boolean comes = (bits >> i & 1) == 1;
                came.set(may.get(i), comes);
                chance = chance.times(Mean.of(comes ? odds : 100 - odds, 100));
            }
            if (chance.upper.signum() != 0) {
                has = has.plus(chance.times(plan(new World(then.hour, 0, then.stands, came), p, n - 1)));
            }
        }
        return has;
    }

    private Mean plan(World w, int p, int n) {
        Mean best = planBy(w, p, n, 0);
        for (int c = 1; c < choices; c++) {
            Mean mean = planBy(w, p, n, c);
            best = mean.above(best) ? mean : best;
        }
        return best;
    }

    private int planFirst(World w, int p, int n) {
        Mean best = plan(w, p, n);
        int held = w.stands.get(p).held;
        for (int i = -1; i < choices; i++) {
            int c = i < 0 ? held : i;
            if (planBy(w, p, n, c).equals(best)) {
                return c;
            }
        }
        return -99;
    }

    private Mean stays(World w, int p, int n) {
        int held = w.stands.get(p).held;
        Mean has = Mean.of(0, 1);
        for (int h = w.hour; h < w.hour + n; h++) {
            has = has.plus(Mean.of(worthOf(p, held, w.came), 1));
            for (Reason r : reasons) {
                if (r.person == p && r.choice == held && r.hour > w.hour && r.hour <= h) {
                    has = has.plus(Mean.of((long) r.odds * r.more, 100));
                }
            }
        }
        return has;
    }

    private static int[][] table(int apart) {
        int[][] table = new int[5][5];
        for (int c = 0; c < 5; c++) {
            for (int d = 0; d < 5; d++) {
                table[c][d] = c == d ? 0 : apart;
            }
        }
        return table;
    }

    private int raised(int[][] apart, int times) {
        int sum = 0;
        for (int p = 0; p < people; p++) {
            sum += taxOf(p, world.stands.get(p), world.hour, chooses(world, p, apart, times), apart, times);
        }
        return sum;
    }

    private int harm(int[][] apart, int times) {
        int sum = 0;
        for (int p = 0; p < people; p++) {
            int most = 0;
            for (int c = 0; c < choices; c++) {
                most = Math.max(most, worthOf(p, c, world.came));
            }
            int c = chooses(world, p, apart, times);
            sum += most - worthOf(p, c, world.came) + taxOf(p, world.stands.get(p), world.hour, c, apart, times);
        }
        return sum;
    }

    private int bestTable() {
        int best = 0;
        for (int t = 9; t >= 0; t--) {
            int more = Integer.compare(raised(table(t), third), raised(table(best), third));
            int less = Integer.compare(harm(table(best), third), harm(table(t), third));
            if (t == 9 || more > 0 || more == 0 && less >= 0) {
                best = t;
            }
        }
        return best;
    }

    private int waverers(int[][] apart) {
        int bits = 0;
        for (int p = 0; p < people; p++) {
            bits |= chooses(world, p, apart, third) != world.stands.get(p).held ? 1 << p : 0;
        }
        return bits;
    }

    private int stillTable() {
        for (int t = 0; t <= 9; t++) {
            if (waverers(table(t)) == 0) {
                return t;
            }
        }
        return -2;
    }

    /** All rows of one by trying every number of as many digits as he has receipts; in order. */
    private List<int[]> rowsOf(int p) {
        List<Receipt> his = new ArrayList<>();
        receipts.stream().filter(r -> r.person == p).forEach(his::add);
        List<int[]> rows = new ArrayList<>();
        int all = (int) Math.round(Math.pow(choices, his.size()));
        for (int number = 0; number < all; number++) {
            int[] row = new int[his.size()];
            for (int i = his.size() - 1, rest = number; i >= 0; i--, rest /= choices) {
                row[i] = rest % choices;
            }
            Stand s = new Stand(first[p], 0, 0, -2);
            boolean fits = true;
            for (int i = 0; i < row.length && fits; i++) {
                fits = row[i] != s.held && taxOf(p, s, his.get(i).hour, row[i], far, third) == his.get(i).amount;
                s = new Stand(row[i], s.changes + 1, 0, his.get(i).hour);
            }
            if (fits) {
                rows.add(row);
            }
        }
        return rows;
    }

    private int placeOf(int k) {
        int place = 0;
        for (int i = 0; i < k; i++) {
            place += receipts.get(i).person == receipts.get(k).person ? 1 : 0;
        }
        return place;
    }

    private int leaves(int k) {
        int[] groups = new int[5];
        rowsOf(receipts.get(k).person).forEach(row -> groups[row[placeOf(k)]]++);
        return Arrays.stream(groups).max().getAsInt();
    }

    private int ask() {
        int best = -2;
        for (int k = receipts.size() - 1; k >= 0; k--) {
            int left = leaves(k);
            if (left > 0 && (best < 0 || left <= leaves(best))) {
                best = k;
            }
        }
        return best;
    }

    private int caught(int places) {
        int sum = 0;
        for (int s = 0; s < crowds.size(); s++) {
            boolean seen = (places >> s & 1) == 1;
            for (int o = 0; o < crowds.size(); o++) {
                seen |= (places >> o & 1) == 1 && lane[s][o];
            }
            sum += seen ? crowds.get(s) : 0;
        }
        return sum;
    }

    private int places(int inspectors) {
        List<Integer> sets = new ArrayList<>();
        for (int set = 0; set < 1 << crowds.size(); set++) {
            if (Integer.bitCount(set) <= inspectors) {
                sets.add(set);
            }
        }
        sets.sort((a, b) -> caught(a) != caught(b) ? caught(b) - caught(a)
            : Integer.bitCount(a) != Integer.bitCount(b) ? Integer.bitCount(a) - Integer.bitCount(b) : a - b);
        return sets.get(0);
    }

    private int two(int p, boolean moves, int q, boolean otherMoves) {
        int mine = world.stands.get(moves ? q : p).held;
        int his = world.stands.get(otherMoves ? p : q).held;
        return worthOf(p, mine, world.came) - tax(world, p, mine) + (mine == his ? 5 : 0);
    }

    private List<Integer> rests(int p, int q) {
        List<Integer> found = new ArrayList<>();
        for (int one = 0; one <= 1; one++) {
            for (int other = 0; other <= 1; other++) {
                boolean betterAlone = two(p, one == 0, q, other == 1) > two(p, one == 1, q, other == 1)
                    || two(q, other == 0, p, one == 1) > two(q, other == 1, p, one == 1);
                if (!betterAlone) {
                    found.add(10 * one + other);
                }
            }
        }
        return found;
    }

    private World year(int seed, int n) {
        World w = new World(world.hour, seed, world.stands, world.came);
        for (int h = 0; h < n; h++) {
            for (int p = 0; p < people; p++) {
                int c = chooses(w, p, far, third);
                w = c == w.stands.get(p).held ? w : changed(w, p, c);
            }
            w = nextHour(w);
        }
        return w;
    }

    // ---- both side by side

    /** Asking all takes up to 221 calls, telling the law 46, an act 2: an object is used for 512 alone. */
    private void live(int run) {
        WaverTax x = Check.under(text.toString());
        String at = "run " + run + ": ";
        if (run % 2 == 0) {
            askAll(x, at);
        }
        for (int acts = run % 2 == 0 ? 10 : upTo(100); acts > 0; acts--) {
            act(x, at);
        }
        askAll(x, at);
    }

    private void act(WaverTax x, String at) {
        int what = upTo(9);
        if (what <= 3 && people > 0) {
            int p = upTo(people - 1);
            int c = upTo(choices - 1);
            if (world.stands.get(p).held == c) {
                Check.refused(x, at + "change", x.change(p, c), 5);
            } else {
                Check.due(at + "change", x.change(p, c), tax(world, p, c));
                kept();
                world = changed(world, p, c);
            }
        } else if (what <= 5) {
            int n = 1 + upTo(random.nextInt(4) == 0 ? 23 : 2);
            kept();
            long before = world.came.stream().filter(b -> b).count();
            for (int h = 0; h < n; h++) {
                world = nextHour(world);
            }
            Check.due(at + "hours", x.hours(n), world.came.stream().filter(b -> b).count() - before);
        } else if (what == 6) {
            int v = upTo(65536);
            Check.due(at + "seed", x.seed(v), true);
            world = new World(world.hour, v, world.stands, world.came);
        } else if (what == 7) {
            Check.due(at + "undo", x.undo(), !past.isEmpty());
            world = past.isEmpty() ? world : past.pop();
        } else if (what == 8) {
            Check.due(at + "mark", x.mark(), marks.size() < 3 ? marks.size() : -1);
            if (marks.size() < 3) {
                marks.add(world);
            }
        } else {
            int mark = upTo(2);
            Check.due(at + "back", x.back(mark), mark < marks.size());
            if (mark < marks.size()) {
                world = marks.get(mark);
                past.clear();
            }
        }
    }

    private void kept() {
        past.push(world);
        if (past.size() > 16) {
            past.removeLast();
        }
    }

    private void askAll(WaverTax x, String at) {
        askSizes(x, at);
        for (int p = 0; p < people; p++) {
            askPerson(x, at, p);
        }
        Check.due(at + "waverers", x.waverers(), waverers(far));
        Check.due(at + "raised", x.raised(), raised(far, third));
        Check.due(at + "harm", x.harm(), harm(far, third));
        int t = upTo(9);
        Check.due(at + "raisedBy", x.raisedBy(t), raised(table(t), third));
        Check.due(at + "harmBy", x.harmBy(t), harm(table(t), third));
        Check.due(at + "raisedThird", x.raisedThird(1 + t % 4), raised(far, 1 + t % 4));
        Check.due(at + "harmThird", x.harmThird(1 + t % 4), harm(far, 1 + t % 4));
        Check.due(at + "bestTable", x.bestTable(), bestTable());
        Check.due(at + "stillTable", x.stillTable(), stillTable());
        askReceipts(x, at);
        for (int n = 0; n <= 6; n++) {
            Check.due(at + "caught", x.caught(n), caught(places(n)));
            Check.due(at + "places", x.places(n), places(n));
        }
        Check.due(at + "enough", x.enough(), Integer.bitCount(places(6)));
        if (people > 1) {
            int p = upTo(people - 1);
            int q = (p + 1 + upTo(people - 2)) % people;
            boolean one = random.nextBoolean();
            boolean other = random.nextBoolean();
            Check.due(at + "two", x.two(p, one, q, other, false), two(p, one, q, other));
            Check.due(at + "two other", x.two(p, one, q, other, true), two(q, other, p, one));
            Check.due(at + "rests", x.rests(p, q), rests(p, q).size());
            Check.due(at + "rest", x.rest(p, q), rests(p, q).isEmpty() ? -2 : rests(p, q).get(0));
        }
        askYear(x, at);
    }

    private void askSizes(WaverTax x, String at) {
        int[] due = {root, third, choices, people, liked, reasons.size(), receipts.size(), crowds.size(), lanes,
            world.hour, world.seed, past.size(), marks.size(), 0};
        for (int what = 0; what < due.length; what++) {
            Check.due(at + "size " + what, x.size(what), due[what]);
        }
        for (int k = 0; k < reasons.size(); k++) {
            Check.due(at + "came", x.came(k), world.came.get(k) ? 1 : 0);
        }
        for (int s = 0; s < crowds.size(); s++) {
            Check.due(at + "catches", x.catches(s), caught(1 << s));
        }
        for (int c = 0; c < choices; c++) {
            Check.due(at + "far", x.far(c, t(c)), far[c][t(c)]);
        }
        for (int c = 0; c < choices; c++) {
            Check.due(at + "holders", x.holders(c), holders(c));
        }
        Check.due(at + "fashion", x.fashion(), fashion());
        Check.due(at + "farthest", x.farthest(), farthest());
        int i = 0;
        for (int p = 0; p < people; p++) {
            if (world.stands.get(p).held == first[p]) {
                Check.due(at + "led", x.led(i), p);
                i++;
            }
        }
        Check.due(at + "paid", x.paid(), world.stands.stream().mapToInt(Stand::paid).sum());
    }

    private int holders(int c) {
        int bits = 0;
        for (int p = 0; p < people; p++) {
            bits += world.stands.get(p).held == c ? 1 << p : 0;
        }
        return bits;
    }

    private int fashion() {
        for (int many = people; many >= 0; many--) {
            for (int c = 0; c < choices; c++) {
                if (Integer.bitCount(holders(c)) == many) {
                    return c;
                }
            }
        }
        return -99;
    }

    private int farthest() {
        for (int apart = 9; apart >= 1; apart--) {
            for (int c = 0; c < choices; c++) {
                for (int d = c + 1; d < choices; d++) {
                    if (far[c][d] == apart) {
                        return 10 * c + d;
                    }
                }
            }
        }
        return -2;
    }

    private int t(int c) {
        return (c + 1) % choices;
    }

    private void askPerson(WaverTax x, String at, int p) {
        Stand s = world.stands.get(p);
        int[] due = {sort[p], first[p], s.held, s.changes, s.paid, s.latest};
        for (int what = 0; what < due.length; what++) {
            Check.due(at + "person " + what, x.person(p, what), due[what]);
        }
        for (int c = 0; c < choices; c++) {
            Check.due(at + "worth", x.worth(p, c), worthOf(p, c, world.came));
            Check.due(at + "tax", x.tax(p, c), tax(world, p, c));
        }
        Check.due(at + "chooses", x.chooses(p), chooses(world, p, far, third));
        int n = choices > 3 && reasons.size() > 2 ? 1 + upTo(2) : 1 + upTo(3);
        mean(at + "plan", x.plan(p, n, false), x.plan(p, n, true), plan(world, p, n));
        int c = upTo(choices - 1);
        mean(at + "planBy", x.planBy(p, n, c, false), x.planBy(p, n, c, true), planBy(world, p, n, c));
        mean(at + "stays", x.stays(p, n, false), x.stays(p, n, true), stays(world, p, n));
        Check.due(at + "planFirst", x.planFirst(p, n), planFirst(world, p, n));
    }

    private static void mean(String call, long upper, long lower, Mean due) {
        Check.due(call + " upper", upper, due.upper.longValueExact());
        Check.due(call + " lower", lower, due.lower.longValueExact());
    }

    private void askReceipts(WaverTax x, String at) {
        int liar = -2;
        for (int p = people - 1; p >= 0; p--) {
            int one = p;
            boolean has = receipts.stream().anyMatch(r -> r.person == one);
            Check.due(at + "rows", x.rows(p), has ? rowsOf(p).size() : -1);
            liar = rowsOf(p).isEmpty() ? p : liar;
        }
        Check.due(at + "liar", x.liar(), liar);
        for (int k = 0; k < receipts.size(); k++) {
            int could = 0;
            List<int[]> rows = rowsOf(receipts.get(k).person);
            for (int[] row : rows) {
                could |= 1 << row[placeOf(k)];
            }
            Check.due(at + "could", x.could(k), could);
            Check.due(at + "surely", x.surely(k), Integer.bitCount(could) == 1 ? Integer.numberOfTrailingZeros(could) : -2);
            Check.due(at + "firstOf", x.firstOf(k), rows.isEmpty() ? -2 : rows.get(0)[placeOf(k)]);
        }
        Check.due(at + "ask", x.ask(), ask());
        Check.due(at + "askLeaves", x.askLeaves(), ask() < 0 ? -2 : leaves(ask()));
    }

    private void askYear(WaverTax x, String at) {
        int seed = upTo(65536);
        int n = upTo(60);
        World then = year(seed, n);
        Check.due(at + "year", x.year(seed, n), then.stands.stream().mapToInt(Stand::paid).sum() - x.paid());
        int changes = then.stands.stream().mapToInt(Stand::changes).sum()
            - world.stands.stream().mapToInt(Stand::changes).sum();
        Check.due(at + "yearChanges", x.yearChanges(seed, n), changes);
        for (int p = 0; p < people; p++) {
            Check.due(at + "yearHeld", x.yearHeld(p, seed, n), then.stands.get(p).held);
        }
    }
}
