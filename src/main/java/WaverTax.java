import java.util.Arrays;
import java.util.NoSuchElementException;

/** A tax on second thoughts: a law told as a text, and what it makes of people who change their choices. */
public final class WaverTax {
    public static final int NONE = -1;

    /** Answers "there is none" of a call that is not refused. */
    private static final int NOT_ANY = -2;
    private static final int NO_TWO = -1000;

    private static final int TAPE_ROOM = 900;
    private static final int MOST_CHOICES = 5;
    private static final int MOST_PEOPLE = 5;
    private static final int MOST_LIKED = 12;
    private static final int MOST_REASONS = 4;
    private static final int MOST_RECEIPTS = 5;
    private static final int MOST_SHOPS = 6;
    private static final int MOST_LANES = 8;
    private static final int MOST_NAMES = MOST_CHOICES + MOST_PEOPLE + MOST_SHOPS;
    private static final int MOST_UNDONE = 16;
    private static final int MOST_MARKS = 3;

    private static final int MOST_PLANNED = 4;
    private static final int WIDEST_TABLE = 9;
    private static final int MOST_THIRD = 4;
    private static final int LONGEST_YEAR = 60;
    private static final int MOST_HOURS = 24;
    private static final int LAST_HOUR = 999;
    private static final int SEEDS = 65537;
    private static final int TOGETHER = 5;

    private static final int PLAIN = 0;
    private static final int MAD = 1;
    private static final int CHILD = 2;
    private static final int PROUD = 3;

    private static final int NO_SUCH = 1;
    private static final int NUMBER = 2;
    private static final int NO_ROOM = 3;
    private static final int FAULTY = 4;
    private static final int NOT_SO = 5;
    private static final int EMPTY = 6;

    private final byte[] tape = new byte[TAPE_ROOM];
    private int taped = 0;
    private Law law = new Law();
    /** A text is read into this one, so that a fault leaves the law alone. */
    private Law spare = new Law();
    private final Reader reader = new Reader(tape, spare);
    private boolean lawful = false;
    private final Now now = new Now();
    private final Now trial = new Now();
    private final Desk desk = new Desk(law, now);
    private final Planner planner = new Planner(law, desk, trial);
    private final Rows rows = new Rows(law, desk, trial);
    private final Past past = new Past();
    private int trouble = 0;
    private int fault = 0;
    private int place = 0;

    public WaverTax() {
    }

    // ---- the law

    public int feed(int a, int b, int c, int d, int e) {
        if (taped + 20 > TAPE_ROOM) {
            return NONE;
        }
        tapeFour(a);
        tapeFour(b);
        tapeFour(c);
        tapeFour(d);
        tapeFour(e);
        return taped;
    }

    private void tapeFour(int bytes) {
        for (int shift = 24; shift >= 0 && taped < TAPE_ROOM; shift -= 8) {
            tape[taped] = (byte) (bytes >>> shift);
            taped++;
        }
    }

    public int laws(int n) {
        if (n < 0 || n > taped) {
            return refuse(NUMBER);
        }
        taped = 0;
        fault = reader.read(spare, n);
        if (fault != 0) {
            place = reader.place;
            return refuse(FAULTY);
        }
        Law read = spare;
        spare = law;
        law = read;
        lawful = true;
        now.begin(law);
        past.forget();
        return fine(law.people);
    }

    public int fault() {
        return fault;
    }

    public int where() {
        return trouble == FAULTY ? place : NONE;
    }

    // ---- now

    public int person(int p, int what) {
        if (!isPerson(p) || what < 0 || what > 5) {
            return refuse(NO_SUCH);
        }
        switch (what) {
            case 0:
                return fine(law.sort[p]);
            case 1:
                return fine(law.first[p]);
            case 2:
                return fine(now.held[p]);
            case 3:
                return fine(now.changes[p]);
            case 4:
                return fine(now.spent[p]);
            default:
                return fine(now.latest[p]);
        }
    }

    public int far(int c, int d) {
        if (!isChoice(c) || !isChoice(d)) {
            return refuse(NO_SUCH);
        }
        return fine(law.apart(c, d));
    }

    public int worth(int p, int c) {
        if (!isPerson(p) || !isChoice(c)) {
            return refuse(NO_SUCH);
        }
        return fine(present().worthOf(p, c));
    }

    public int tax(int p, int c) {
        if (!isPerson(p) || !isChoice(c)) {
            return refuse(NO_SUCH);
        }
        return fine(present().taxOf(p, c));
    }

    public int chooses(int p) {
        if (!isPerson(p)) {
            return refuse(NO_SUCH);
        }
        return fine(present().choiceOf(p));
    }

    public int waverers() {
        return lawful ? fine(present().wavering()) : refuse(NO_SUCH);
    }

    public int holders(int c) {
        return isChoice(c) ? fine(holding(c)) : refuse(NO_SUCH);
    }

    private int holding(int c) {
        int bits = 0;
        for (int p = 0; p < law.people; p++) {
            if (now.held[p] == c) {
                bits |= 1 << p;
            }
        }
        return bits;
    }

    public int fashion() {
        if (!lawful) {
            return refuse(NO_SUCH);
        }
        int most = 0;
        for (int c = 1; c < law.choices; c++) {
            if (Integer.bitCount(holding(c)) > Integer.bitCount(holding(most))) {
                most = c;
            }
        }
        return fine(most);
    }

    public int came(int k) {
        if (k < 0 || !lawful || k >= law.reasons.count) {
            return refuse(NO_SUCH);
        }
        return fine(now.hasCome(k) ? 1 : 0);
    }

    public int paid() {
        return lawful ? fine(now.allSpent()) : refuse(NO_SUCH);
    }

    public int farthest() {
        return lawful ? fine(law.farthestTwo()) : refuse(NO_SUCH);
    }

    // ---- plans

    public long plan(int p, int n, boolean lower) {
        int why = planTrouble(p, n);
        if (why != 0) {
            return refuseLong(why);
        }
        planner.begin(law, now, p);
        return fineMean(planner.best(n), planner.scale(n), lower);
    }

    public int planFirst(int p, int n) {
        int why = planTrouble(p, n);
        if (why != 0) {
            return refuse(why);
        }
        planner.begin(law, now, p);
        return fine(planner.bestFirst(n));
    }

    public long stays(int p, int n, boolean lower) {
        int why = planTrouble(p, n);
        if (why != 0) {
            return refuseLong(why);
        }
        planner.begin(law, now, p);
        return fineMean(planner.staying(n), 100, lower);
    }

    public long planBy(int p, int n, int c, boolean lower) {
        int why = isChoice(c) ? planTrouble(p, n) : NO_SUCH;
        if (why != 0) {
            return refuseLong(why);
        }
        planner.begin(law, now, p);
        return fineMean(planner.by(c, n), planner.scale(n), lower);
    }

    private int planTrouble(int p, int n) {
        if (!isPerson(p)) {
            return NO_SUCH;
        }
        return n < 1 || n > MOST_PLANNED ? NUMBER : 0;
    }

    private long fineMean(long upper, long lower, boolean wantsLower) {
        trouble = 0;
        long shared = sharedDivisor(Math.abs(upper), lower);
        if (shared == 0) {
            return wantsLower ? lower : upper;
        }
        return wantsLower ? lower / shared : upper / shared;
    }

    private static long sharedDivisor(long a, long b) {
        long more = a;
        long less = b;
        for (int step = 0; step < 200 && less != 0; step++) {
            long rest = more % less;
            more = less;
            less = rest;
        }
        return more;
    }

    // ---- tables, laws

    public int raised() {
        return lawful ? fine(present().raisedOfAll()) : refuse(NO_SUCH);
    }

    public int harm() {
        return lawful ? fine(present().harmOfAll()) : refuse(NO_SUCH);
    }

    public int raisedBy(int far) {
        int why = boundsTrouble(far, 0, WIDEST_TABLE);
        return why == 0 ? fine(byTable(far).raisedOfAll()) : refuse(why);
    }

    public int harmBy(int far) {
        int why = boundsTrouble(far, 0, WIDEST_TABLE);
        return why == 0 ? fine(byTable(far).harmOfAll()) : refuse(why);
    }

    public int bestTable() {
        if (!lawful) {
            return refuse(NO_SUCH);
        }
        int best = 0;
        int most = byTable(0).raisedOfAll();
        int least = byTable(0).harmOfAll();
        for (int table = 1; table <= WIDEST_TABLE; table++) {
            int raises = byTable(table).raisedOfAll();
            int harms = byTable(table).harmOfAll();
            if (raises > most || raises == most && harms < least) {
                best = table;
                most = raises;
                least = harms;
            }
        }
        return fine(best);
    }

    public int raisedThird(int third) {
        int why = boundsTrouble(third, 1, MOST_THIRD);
        return why == 0 ? fine(byThird(third).raisedOfAll()) : refuse(why);
    }

    public int harmThird(int third) {
        int why = boundsTrouble(third, 1, MOST_THIRD);
        return why == 0 ? fine(byThird(third).harmOfAll()) : refuse(why);
    }

    public int stillTable() {
        if (!lawful) {
            return refuse(NO_SUCH);
        }
        for (int table = 0; table <= WIDEST_TABLE; table++) {
            if (byTable(table).wavering() == 0) {
                return fine(table);
            }
        }
        return fine(NOT_ANY);
    }

    private Desk byTable(int table) {
        desk.look(law, now);
        desk.table = table;
        return desk;
    }

    private Desk byThird(int third) {
        desk.look(law, now);
        desk.third = third;
        return desk;
    }

    // ---- receipts

    public int rows(int p) {
        if (!isPerson(p)) {
            return refuse(NO_SUCH);
        }
        if (!law.receipts.has(p)) {
            return refuse(EMPTY);
        }
        rows.gather(law, p);
        return fine(rows.count);
    }

    public int could(int k) {
        return gatherFor(k) ? fine(rows.possible(k)) : refuse(NO_SUCH);
    }

    public int surely(int k) {
        return gatherFor(k) ? fine(rows.certain(k)) : refuse(NO_SUCH);
    }

    public int firstOf(int k) {
        if (!gatherFor(k)) {
            return refuse(NO_SUCH);
        }
        return fine(rows.count == 0 ? NOT_ANY : rows.firstRow[k]);
    }

    public int ask() {
        return lawful ? fine(bestToAsk()) : refuse(NO_SUCH);
    }

    public int askLeaves() {
        if (!lawful) {
            return refuse(NO_SUCH);
        }
        int k = bestToAsk();
        return fine(k < 0 ? NOT_ANY : rows.leaves[k]);
    }

    public int liar() {
        if (!lawful) {
            return refuse(NO_SUCH);
        }
        for (int p = 0; p < law.people; p++) {
            if (law.receipts.has(p)) {
                rows.gather(law, p);
                if (rows.count == 0) {
                    return fine(p);
                }
            }
        }
        return fine(NOT_ANY);
    }

    private boolean gatherFor(int k) {
        if (k < 0 || !lawful || k >= law.receipts.count) {
            return false;
        }
        rows.gather(law, law.receipts.person[k]);
        return true;
    }

    private int bestToAsk() {
        rows.weighAll(law);
        int best = NOT_ANY;
        for (int k = 0; k < law.receipts.count; k++) {
            // a receipt of one without rows leaves 0: nothing is found out by it
            if (rows.leaves[k] > 0 && (best < 0 || rows.leaves[k] < rows.leaves[best])) {
                best = k;
            }
        }
        return best;
    }

    // ---- inspectors

    public int caught(int inspectors) {
        int why = boundsTrouble(inspectors, 0, MOST_SHOPS);
        if (why != 0) {
            return refuse(why);
        }
        return fine(law.shops.caughtFrom(law.shops.bestPlaces(inspectors)));
    }

    public int places(int inspectors) {
        int why = boundsTrouble(inspectors, 0, MOST_SHOPS);
        return why == 0 ? fine(law.shops.bestPlaces(inspectors)) : refuse(why);
    }

    public int enough() {
        return lawful ? fine(law.shops.fewest()) : refuse(NO_SUCH);
    }

    public int catches(int s) {
        if (s < 0 || !lawful || s >= law.shops.count) {
            return refuse(NO_SUCH);
        }
        return fine(law.shops.caughtFrom(1 << s));
    }

    // ---- two

    public int two(int p, boolean changes, int q, boolean others, boolean other) {
        if (!areTwo(p, q)) {
            refuse(NO_SUCH);
            return NO_TWO;
        }
        desk.look(law, now);
        return fine(other ? desk.besides(q, others, p, changes) : desk.besides(p, changes, q, others));
    }

    public int rests(int p, int q) {
        if (!areTwo(p, q)) {
            return refuse(NO_SUCH);
        }
        int count = 0;
        for (int pair = 0; pair < 4; pair++) {
            if (isRest(p, q, pair)) {
                count++;
            }
        }
        return fine(count);
    }

    public int rest(int p, int q) {
        if (!areTwo(p, q)) {
            return refuse(NO_SUCH);
        }
        for (int pair = 0; pair < 4; pair++) {
            if (isRest(p, q, pair)) {
                return fine(pair / 2 * 10 + pair % 2);
            }
        }
        return fine(NOT_ANY);
    }

    private boolean areTwo(int p, int q) {
        return isPerson(p) && isPerson(q) && p != q;
    }

    /** Of a pair 2 says that the one changes, 1 that the other one does. */
    private boolean isRest(int p, int q, int pair) {
        boolean one = pair / 2 == 1;
        boolean other = pair % 2 == 1;
        desk.look(law, now);
        return desk.besides(p, one, q, other) >= desk.besides(p, !one, q, other)
            && desk.besides(q, other, p, one) >= desk.besides(q, !other, p, one);
    }

    // ---- years

    public int year(int seed, int n) {
        int why = yearTrouble(seed, n);
        if (why != 0) {
            return refuse(why);
        }
        live(seed, n);
        return fine(trial.allSpent() - now.allSpent());
    }

    public int yearHeld(int p, int seed, int n) {
        int why = isPerson(p) ? yearTrouble(seed, n) : NO_SUCH;
        if (why != 0) {
            return refuse(why);
        }
        live(seed, n);
        return fine(trial.held[p]);
    }

    public int yearChanges(int seed, int n) {
        int why = yearTrouble(seed, n);
        if (why != 0) {
            return refuse(why);
        }
        live(seed, n);
        return fine(trial.allChanges() - now.allChanges());
    }

    private int yearTrouble(int seed, int n) {
        int why = boundsTrouble(seed, 0, SEEDS - 1);
        return why == 0 ? boundsTrouble(n, 0, LONGEST_YEAR) : why;
    }

    private void live(int seed, int n) {
        trial.become(now);
        trial.seed = seed;
        desk.look(law, trial);
        for (int hour = 0; hour < n; hour++) {
            for (int p = 0; p < law.people; p++) {
                int c = desk.choiceOf(p);
                if (c != trial.held[p]) {
                    trial.move(p, c, desk.taxOf(p, c));
                }
            }
            trial.nextHour(law.reasons);
        }
    }

    // ---- acts

    public int change(int p, int c) {
        if (!isPerson(p) || !isChoice(c)) {
            return refuse(NO_SUCH);
        }
        if (now.held[p] == c) {
            return refuse(NOT_SO);
        }
        past.keep(now);
        int tax = present().taxOf(p, c);
        now.move(p, c, tax);
        return fine(tax);
    }

    public int hours(int n) {
        int why = boundsTrouble(n, 1, MOST_HOURS);
        if (why != 0) {
            return refuse(why);
        }
        if (now.hour + n > LAST_HOUR) {
            return refuse(NO_ROOM);
        }
        past.keep(now);
        int count = 0;
        for (int hour = 0; hour < n; hour++) {
            count += now.nextHour(law.reasons);
        }
        return fine(count);
    }

    public boolean seed(int v) {
        int why = boundsTrouble(v, 0, SEEDS - 1);
        if (why == 0) {
            now.seed = v;
        }
        return answered(why);
    }

    public boolean undo() {
        return answered(past.takeBack(now) ? 0 : EMPTY);
    }

    public int mark() {
        if (!lawful) {
            return refuse(NO_SUCH);
        }
        int number = past.putMark(now);
        return number < 0 ? refuse(NO_ROOM) : fine(number);
    }

    public boolean back(int mark) {
        return answered(past.goBack(mark, now) ? 0 : NO_SUCH);
    }

    // ---- what is told

    public int led(int i) throws NoSuchElementException {
        int left = i;
        for (int p = 0; p < law.people && left >= 0; p++) {
            if (now.held[p] == law.first[p]) {
                if (left == 0) {
                    return p;
                }
                left--;
            }
        }
        throw new NoSuchElementException("no such person holds what he held first");
    }

    public int size(int what) {
        switch (what) {
            case 0:
                return law.root;
            case 1:
                return law.third;
            case 2:
                return law.choices;
            case 3:
                return law.people;
            case 4:
                return law.liked;
            case 5:
                return law.reasons.count;
            case 6:
                return law.receipts.count;
            case 7:
                return law.shops.count;
            case 8:
                return law.shops.lanes;
            case 9:
                return now.hour;
            case 10:
                return now.seed;
            case 11:
                return past.undoable;
            case 12:
                return past.marks;
            case 13:
                return taped;
            default:
                return NONE;
        }
    }

    public int trouble() {
        return trouble;
    }

    // ---- what the calls share

    private boolean isPerson(int p) {
        return p >= 0 && p < law.people;
    }

    private boolean isChoice(int c) {
        return c >= 0 && c < law.choices;
    }

    private int boundsTrouble(int number, int least, int most) {
        if (!lawful) {
            return NO_SUCH;
        }
        return number < least || number > most ? NUMBER : 0;
    }

    private Desk present() {
        desk.look(law, now);
        return desk;
    }

    private int fine(int answer) {
        trouble = 0;
        return answer;
    }

    private int refuse(int why) {
        trouble = why;
        return NONE;
    }

    private long refuseLong(int why) {
        trouble = why;
        return Long.MIN_VALUE;
    }

    private boolean answered(int why) {
        trouble = why;
        return why == 0;
    }

    /** What a text tells; nothing of it changes once it is read. */
    private static final class Law {
        int root = 0;
        int third = 0;
        int choices = 0;
        int people = 0;
        int liked = 0;
        /** 0 where the text tells nothing. */
        final int[][] toldFar = new int[MOST_CHOICES][MOST_CHOICES];
        final int[] sort = new int[MOST_PEOPLE];
        final int[] first = new int[MOST_PEOPLE];
        final int[][] toldWorth = new int[MOST_PEOPLE][MOST_CHOICES];
        /** Of which choices a worth is told, as bits: it may be 0. */
        final int[] likes = new int[MOST_PEOPLE];
        final Reasons reasons = new Reasons();
        final Receipts receipts = new Receipts();
        final Shops shops = new Shops();

        void wipe() {
            root = 0;
            third = 0;
            choices = 0;
            people = 0;
            liked = 0;
            for (int c = 0; c < MOST_CHOICES; c++) {
                Arrays.fill(toldFar[c], 0);
            }
            for (int p = 0; p < MOST_PEOPLE; p++) {
                Arrays.fill(toldWorth[p], 0);
            }
            Arrays.fill(likes, 0);
            reasons.count = 0;
            receipts.count = 0;
            shops.wipe();
        }

        int apart(int c, int d) {
            if (c == d) {
                return 0;
            }
            return toldFar[c][d] == 0 ? 1 : toldFar[c][d];
        }

        int farthestTwo() {
            int most = 0;
            int found = NOT_ANY;
            for (int c = 0; c < choices; c++) {
                for (int d = c + 1; d < choices; d++) {
                    if (apart(c, d) > most) {
                        most = apart(c, d);
                        found = 10 * c + d;
                    }
                }
            }
            return found;
        }
    }

    private static final class Reasons {
        int count = 0;
        final int[] person = new int[MOST_REASONS];
        final int[] choice = new int[MOST_REASONS];
        final int[] hour = new int[MOST_REASONS];
        final int[] odds = new int[MOST_REASONS];
        final int[] more = new int[MOST_REASONS];

        /** One's first reason of an hour from the k-th reason on; as many as there are, if there is none. */
        int nextOf(int p, int at, int k) {
            for (int next = k; next < count; next++) {
                if (person[next] == p && hour[next] == at) {
                    return next;
                }
            }
            return count;
        }

        /** How many of one's reasons have an hour behind the one and ahead of the other. */
        int between(int p, int behind, int ahead) {
            int found = 0;
            for (int k = 0; k < count; k++) {
                if (person[k] == p && hour[k] > behind && hour[k] < ahead) {
                    found++;
                }
            }
            return found;
        }
    }

    private static final class Receipts {
        int count = 0;
        final int[] person = new int[MOST_RECEIPTS];
        final int[] amount = new int[MOST_RECEIPTS];
        final int[] hour = new int[MOST_RECEIPTS];

        boolean has(int p) {
            return nextOf(p, 0) < count;
        }

        /** One's first receipt from the k-th on; as many as there are, if there is none. */
        int nextOf(int p, int k) {
            for (int next = k; next < count; next++) {
                if (person[next] == p) {
                    return next;
                }
            }
            return count;
        }

        int latestHour(int p) {
            int latest = NONE;
            for (int k = 0; k < count; k++) {
                if (person[k] == p) {
                    latest = hour[k];
                }
            }
            return latest;
        }
    }

    private static final class Shops {
        int count = 0;
        int lanes = 0;
        final int[] crowd = new int[MOST_SHOPS];
        /** The shops one lane off, as bits. */
        final int[] near = new int[MOST_SHOPS];

        void wipe() {
            count = 0;
            lanes = 0;
            Arrays.fill(near, 0);
        }

        int caughtFrom(int places) {
            int reached = places;
            for (int s = 0; s < count; s++) {
                if ((places >> s & 1) == 1) {
                    reached |= near[s];
                }
            }
            int sum = 0;
            for (int s = 0; s < count; s++) {
                if ((reached >> s & 1) == 1) {
                    sum += crowd[s];
                }
            }
            return sum;
        }

        /** Going up through the bits, a later set wins only if it catches more, or as much with fewer. */
        int bestPlaces(int inspectors) {
            int best = 0;
            int most = 0;
            for (int places = 1; places < 1 << count; places++) {
                if (Integer.bitCount(places) <= inspectors) {
                    int catching = caughtFrom(places);
                    if (catching > most
                        || catching == most && Integer.bitCount(places) < Integer.bitCount(best)) {
                        best = places;
                        most = catching;
                    }
                }
            }
            return best;
        }

        int fewest() {
            return Integer.bitCount(bestPlaces(count));
        }
    }

    /** How all stands at an hour: what acts change, and undoing brings again. */
    private static final class Now {
        int hour = 0;
        int seed = 0;
        /** Which reasons came, as bits. */
        int cameBits = 0;
        final int[] held = new int[MOST_PEOPLE];
        final int[] changes = new int[MOST_PEOPLE];
        final int[] spent = new int[MOST_PEOPLE];
        final int[] latest = new int[MOST_PEOPLE];

        void begin(Law law) {
            hour = 0;
            seed = 0;
            cameBits = 0;
            System.arraycopy(law.first, 0, held, 0, MOST_PEOPLE);
            Arrays.fill(changes, 0);
            Arrays.fill(spent, 0);
            Arrays.fill(latest, NOT_ANY);
        }

        void become(Now other) {
            hour = other.hour;
            seed = other.seed;
            cameBits = other.cameBits;
            System.arraycopy(other.held, 0, held, 0, MOST_PEOPLE);
            System.arraycopy(other.changes, 0, changes, 0, MOST_PEOPLE);
            System.arraycopy(other.spent, 0, spent, 0, MOST_PEOPLE);
            System.arraycopy(other.latest, 0, latest, 0, MOST_PEOPLE);
        }

        boolean hasCome(int k) {
            return (cameBits >> k & 1) == 1;
        }

        void move(int p, int c, int tax) {
            held[p] = c;
            changes[p]++;
            spent[p] += tax;
            latest[p] = hour;
        }

        /** How many reasons come with the next hour. */
        int nextHour(Reasons reasons) {
            hour++;
            int coming = 0;
            for (int k = 0; k < reasons.count; k++) {
                if (reasons.hour[k] == hour) {
                    seed = (75 * seed + 74) % SEEDS;
                    if (seed % 100 < reasons.odds[k]) {
                        cameBits |= 1 << k;
                        coming++;
                    }
                }
            }
            return coming;
        }

        int allSpent() {
            int sum = 0;
            for (int p = 0; p < MOST_PEOPLE; p++) {
                sum += spent[p];
            }
            return sum;
        }

        int allChanges() {
            int sum = 0;
            for (int p = 0; p < MOST_PEOPLE; p++) {
                sum += changes[p];
            }
            return sum;
        }
    }

    /** Reckons tax and worth of a law as all stands, perhaps by another table or another third. */
    private static final class Desk {
        private Law law;
        private Now now;
        /** NONE: as far as the law says. */
        int table = NONE;
        int third = 0;

        Desk(Law law, Now now) {
            this.law = law;
            this.now = now;
        }

        void look(Law law, Now now) {
            this.law = law;
            this.now = now;
            table = NONE;
            third = law.third;
        }

        int taxOf(int p, int c) {
            int sort = law.sort[p];
            if (c == now.held[p] || sort == MAD || sort == CHILD) {
                return 0;
            }
            int tax = table == NONE ? law.apart(now.held[p], c) : table;
            if (now.changes[p] > 0 && now.hour - now.latest[p] < law.root) {
                tax *= 2;
            }
            if (now.changes[p] >= 2) {
                tax *= third;
            }
            if (c == law.first[p]) {
                tax /= 2;
            }
            return sort == PROUD ? 2 * tax : tax;
        }

        int worthOf(int p, int c) {
            Reasons reasons = law.reasons;
            int worth = law.toldWorth[p][c];
            for (int k = 0; k < reasons.count; k++) {
                if (reasons.person[k] == p && reasons.choice[k] == c && now.hasCome(k)) {
                    worth += reasons.more[k];
                }
            }
            return worth;
        }

        int leftOf(int p, int c) {
            return worthOf(p, c) - taxOf(p, c);
        }

        int choiceOf(int p) {
            int best = now.held[p];
            int most = leftOf(p, best);
            for (int c = 0; c < law.choices; c++) {
                int left = leftOf(p, c);
                if (left > most) {
                    best = c;
                    most = left;
                }
            }
            return best;
        }

        int wavering() {
            int bits = 0;
            for (int p = 0; p < law.people; p++) {
                if (choiceOf(p) != now.held[p]) {
                    bits |= 1 << p;
                }
            }
            return bits;
        }

        int raisedOfAll() {
            int sum = 0;
            for (int p = 0; p < law.people; p++) {
                sum += taxOf(p, choiceOf(p));
            }
            return sum;
        }

        int harmOfAll() {
            int sum = 0;
            for (int p = 0; p < law.people; p++) {
                sum += greatestWorth(p) - leftOf(p, choiceOf(p));
            }
            return sum;
        }

        private int greatestWorth(int p) {
            int most = 0;
            for (int c = 0; c < law.choices; c++) {
                most = Math.max(most, worthOf(p, c));
            }
            return most;
        }

        /** What p has, if each of him and q stays or changes to what the other one holds. */
        int besides(int p, boolean moves, int q, boolean otherMoves) {
            int mine = moves ? now.held[q] : now.held[p];
            int his = otherMoves ? now.held[p] : now.held[q];
            return leftOf(p, mine) + (mine == his ? TOGETHER : 0);
        }
    }

    /** Tries all plans of one; what they have is told times scale, so that it stays whole. */
    private static final class Planner {
        private Law law;
        private final Desk desk;
        private final Now trial;
        private int one = 0;

        Planner(Law law, Desk desk, Now trial) {
            this.law = law;
            this.desk = desk;
            this.trial = trial;
        }

        void begin(Law law, Now now, int p) {
            this.law = law;
            one = p;
            trial.become(now);
            desk.look(law, trial);
        }

        /** A hundred for each reason that may come in the hours left behind this one. */
        long scale(int left) {
            long scale = 1;
            int coming = law.reasons.between(one, trial.hour, trial.hour + left);
            for (int k = 0; k < coming; k++) {
                scale *= 100;
            }
            return scale;
        }

        private long best(int left) {
            int held = trial.held[one];
            long most = by(held, left);
            for (int c = 0; c < law.choices; c++) {
                if (c != held) {
                    most = Math.max(most, by(c, left));
                }
            }
            return most;
        }

        int bestFirst(int left) {
            int first = trial.held[one];
            long most = by(first, left);
            for (int c = 0; c < law.choices; c++) {
                long mean = by(c, left);
                if (mean > most) {
                    first = c;
                    most = mean;
                }
            }
            return first;
        }

        private long by(int c, int left) {
            long has = desk.leftOf(one, c);
            if (left <= 1) {
                return has;
            }
            has *= scale(left);
            int held = trial.held[one];
            int changes = trial.changes[one];
            int latest = trial.latest[one];
            if (c != held) {
                trial.move(one, c, 0);
            }
            trial.hour++;
            has += chances(0, left - 1);
            trial.hour--;
            trial.held[one] = held;
            trial.changes[one] = changes;
            trial.latest[one] = latest;
            return has;
        }

        /** The best plan of the hours left, once the reasons of this hour from the k-th on may come. */
        private long chances(int k, int left) {
            Reasons reasons = law.reasons;
            int next = reasons.nextOf(one, trial.hour, k);
            if (next < 0 || next >= reasons.count) {
                return best(left);
            }
            long odds = reasons.odds[next];
            long without = (100 - odds) * chances(next + 1, left);
            trial.cameBits |= 1 << next;
            long with = odds * chances(next + 1, left);
            trial.cameBits &= ~(1 << next);
            return with + without;
        }

        /** What he has in n hours by what he holds, times 100. */
        long staying(int n) {
            Reasons reasons = law.reasons;
            int held = trial.held[one];
            long has = 100L * n * desk.worthOf(one, held);
            for (int k = 0; k < reasons.count; k++) {
                int hoursOff = reasons.hour[k] - trial.hour;
                if (reasons.person[k] == one && reasons.choice[k] == held && hoursOff > 0 && hoursOff < n) {
                    has += (long) reasons.odds[k] * reasons.more[k] * (n - hoursOff);
                }
            }
            return has;
        }
    }

    /** Finds all rows of choices that one's receipts allow. */
    private static final class Rows {
        private Law law;
        private final Desk desk;
        private final Now trial;
        private int one = 0;
        int count = 0;
        final int[] firstRow = new int[MOST_RECEIPTS];
        /** By receipt, how many rows of its person are left at most once its choice is told. */
        final int[] leaves = new int[MOST_RECEIPTS];
        private final int[] row = new int[MOST_RECEIPTS];
        /** By receipt and choice, in how many rows it is. */
        private final int[][] tally = new int[MOST_RECEIPTS][MOST_CHOICES];

        Rows(Law law, Desk desk, Now trial) {
            this.law = law;
            this.desk = desk;
            this.trial = trial;
        }

        void gather(Law law, int p) {
            this.law = law;
            one = p;
            count = 0;
            for (int k = 0; k < MOST_RECEIPTS; k++) {
                Arrays.fill(tally[k], 0);
            }
            trial.begin(law);
            desk.look(law, trial);
            extend(0);
        }

        private void extend(int from) {
            Receipts receipts = law.receipts;
            int k = receipts.nextOf(one, from);
            if (k < 0 || k >= receipts.count) {
                countRow();
                return;
            }
            int held = trial.held[one];
            int changes = trial.changes[one];
            int latest = trial.latest[one];
            for (int c = 0; c < law.choices; c++) {
                trial.hour = receipts.hour[k];
                if (c != held && desk.taxOf(one, c) == receipts.amount[k]) {
                    trial.move(one, c, 0);
                    row[k] = c;
                    extend(k + 1);
                    trial.held[one] = held;
                    trial.changes[one] = changes;
                    trial.latest[one] = latest;
                }
            }
        }

        private void countRow() {
            for (int k = 0; k < law.receipts.count; k++) {
                if (law.receipts.person[k] == one) {
                    tally[k][row[k]]++;
                    if (count == 0) {
                        firstRow[k] = row[k];
                    }
                }
            }
            count++;
        }

        int possible(int k) {
            int bits = 0;
            for (int c = 0; c < law.choices; c++) {
                if (tally[k][c] > 0) {
                    bits |= 1 << c;
                }
            }
            return bits;
        }

        int certain(int k) {
            for (int c = 0; c < law.choices; c++) {
                if (count > 0 && tally[k][c] == count) {
                    return c;
                }
            }
            return NOT_ANY;
        }

        void weighAll(Law law) {
            for (int p = 0; p < law.people; p++) {
                if (law.receipts.has(p)) {
                    gather(law, p);
                    weigh();
                }
            }
        }

        private void weigh() {
            for (int k = 0; k < law.receipts.count; k++) {
                if (law.receipts.person[k] == one) {
                    leaves[k] = 0;
                    for (int c = 0; c < law.choices; c++) {
                        leaves[k] = Math.max(leaves[k], tally[k][c]);
                    }
                }
            }
        }
    }

    /** What can be undone, and the marks. */
    private static final class Past {
        private final Now[] kept = new Now[MOST_UNDONE];
        private final Now[] marked = new Now[MOST_MARKS];
        int undoable = 0;
        int marks = 0;

        Past() {
            for (int i = 0; i < MOST_UNDONE; i++) {
                kept[i] = new Now();
            }
            for (int i = 0; i < MOST_MARKS; i++) {
                marked[i] = new Now();
            }
        }

        void forget() {
            undoable = 0;
            marks = 0;
        }

        void keep(Now now) {
            if (undoable == MOST_UNDONE) {
                Now oldest = kept[0];
                for (int i = 1; i < MOST_UNDONE; i++) {
                    kept[i - 1] = kept[i];
                }
                kept[MOST_UNDONE - 1] = oldest;
                undoable--;
            }
            kept[undoable].become(now);
            undoable++;
        }

        boolean takeBack(Now now) {
            if (undoable == 0) {
                return false;
            }
            undoable--;
            now.become(kept[undoable]);
            return true;
        }

        int putMark(Now now) {
            if (marks >= MOST_MARKS) {
                return NONE;
            }
            marked[marks].become(now);
            marks++;
            return marks - 1;
        }

        boolean goBack(int mark, Now now) {
            if (mark < 0 || mark >= marks) {
                return false;
            }
            now.become(marked[mark]);
            undoable = 0;
            return true;
        }
    }

    /**
     * Reads a text into a law. The first fault is kept, and from it on nothing more is read,
     * so that a line may be written down as it stands in the document.
     */
    private static final class Reader {
        private static final int FORM = 1;
        private static final int UNTOLD = 2;
        private static final int AGAIN = 3;
        private static final int BOUNDS = 4;
        private static final int MANY = 5;
        private static final int LACKS = 6;

        private static final int END = 0;
        private static final int WORD = 1;
        private static final int WHOLE = 2;
        private static final int STOP = 3;
        private static final int NO_TOKEN = 4;
        private static final int LONGEST_WORD = 8;
        private static final int LONGEST_WHOLE = 3;

        private static final int TAX = 0;
        private static final int CHOICE = 1;
        private static final int FAR = 2;
        private static final int PERSON = 3;
        private static final int LIKES = 4;
        private static final int REASON = 5;
        private static final int PAID = 6;
        private static final int SHOP = 7;
        private static final int LANE = 8;

        private final byte[] text;
        private int size = 0;
        private Law law;
        private boolean taxTold = false;
        private int token = END;
        private int start = 0;
        private int end = 0;
        private int fault = 0;
        int place = 0;
        private int names = 0;
        private final int[] nameStart = new int[MOST_NAMES];
        private final int[] nameEnd = new int[MOST_NAMES];
        private final int[] nameSort = new int[MOST_NAMES];
        private final int[] nameNumber = new int[MOST_NAMES];

        Reader(byte[] text, Law law) {
            this.text = text;
            this.law = law;
        }

        /** The fault; 0 without one. */
        int read(Law into, int n) {
            law = into;
            law.wipe();
            size = Math.min(n, text.length);
            taxTold = false;
            fault = 0;
            names = 0;
            end = 0;
            next();
            readLine();
            for (int lines = 0; lines < size && fault == 0 && token != END; lines++) {
                if (token == STOP) {
                    next();
                    readLine();
                } else {
                    fail(FORM, start);
                }
            }
            if (law.choices == 0) {
                fail(LACKS, size);
            }
            return fault;
        }

        private void fail(int number, int at) {
            if (fault == 0) {
                fault = number;
                place = at;
            }
        }

        private void next() {
            start = end;
            while (start < size && text[start] == ' ') {
                start++;
            }
            end = start;
            if (start >= size) {
                token = END;
            } else if (isLetter(start)) {
                while (end < size && isLetter(end)) {
                    end++;
                }
                token = end - start <= LONGEST_WORD ? WORD : NO_TOKEN;
            } else if (isDigit(start)) {
                while (end < size && isDigit(end)) {
                    end++;
                }
                token = end - start <= LONGEST_WHOLE ? WHOLE : NO_TOKEN;
            } else {
                end++;
                token = text[start] == ';' ? STOP : NO_TOKEN;
            }
        }

        private boolean isLetter(int i) {
            return text[i] >= 'a' && text[i] <= 'z';
        }

        private boolean isDigit(int i) {
            return text[i] >= '0' && text[i] <= '9';
        }

        private void readLine() {
            int sort = lineSort();
            if (sort == NONE) {
                fail(FORM, start);
            } else if (sort == TAX && taxTold) {
                fail(AGAIN, start);
            } else if (isFull(sort)) {
                fail(MANY, start);
            } else if (sort != TAX && !taxTold) {
                fail(LACKS, start);
            }
            if (fault != 0) {
                return;
            }
            next();
            switch (sort) {
                case TAX:
                    readTax();
                    break;
                case CHOICE:
                    readChoice();
                    break;
                case FAR:
                    readFar();
                    break;
                case PERSON:
                    readPerson();
                    break;
                case LIKES:
                    readLikes();
                    break;
                case REASON:
                    readReason();
                    break;
                case PAID:
                    readPaid();
                    break;
                case SHOP:
                    readShop();
                    break;
                default:
                    readLane();
                    break;
            }
        }

        private int lineSort() {
            if (token != WORD) {
                return NONE;
            }
            if (is("tax")) {
                return TAX;
            }
            if (is("choice")) {
                return CHOICE;
            }
            if (is("far")) {
                return FAR;
            }
            if (is("person")) {
                return PERSON;
            }
            if (is("likes")) {
                return LIKES;
            }
            if (is("reason")) {
                return REASON;
            }
            if (is("paid")) {
                return PAID;
            }
            if (is("shop")) {
                return SHOP;
            }
            return is("lane") ? LANE : NONE;
        }

        private boolean is(String word) {
            if (token != WORD || end - start != word.length()) {
                return false;
            }
            for (int i = 0; i < word.length(); i++) {
                if (text[start + i] != word.charAt(i)) {
                    return false;
                }
            }
            return true;
        }

        private boolean isFull(int sort) {
            switch (sort) {
                case CHOICE:
                    return law.choices >= MOST_CHOICES;
                case PERSON:
                    return law.people >= MOST_PEOPLE;
                case LIKES:
                    return law.liked >= MOST_LIKED;
                case REASON:
                    return law.reasons.count >= MOST_REASONS;
                case PAID:
                    return law.receipts.count >= MOST_RECEIPTS;
                case SHOP:
                    return law.shops.count >= MOST_SHOPS;
                case LANE:
                    return law.shops.lanes >= MOST_LANES;
                default:
                    return false;
            }
        }

        private void readTax() {
            taxTold = true;
            keyword("root");
            law.root = whole(0, 9);
            keyword("third");
            law.third = whole(1, 4);
        }

        private void readChoice() {
            newName(CHOICE, law.choices);
            if (fault == 0) {
                law.choices++;
            }
        }

        private void readFar() {
            int one = known(CHOICE);
            int at = start;
            int other = known(CHOICE);
            if (one == other || law.toldFar[one][other] != 0) {
                fail(AGAIN, at);
            }
            keyword("by");
            int by = whole(1, 9);
            law.toldFar[one][other] = by;
            law.toldFar[other][one] = by;
        }

        private void readPerson() {
            newName(PERSON, law.people);
            int sort = personSort();
            keyword("holds");
            int choice = known(CHOICE);
            if (fault == 0) {
                law.sort[law.people] = sort;
                law.first[law.people] = choice;
                law.people++;
            }
        }

        private int personSort() {
            if (fault != 0) {
                return PLAIN;
            }
            int sort = is("plain") ? PLAIN : is("mad") ? MAD : is("child") ? CHILD : is("proud") ? PROUD : NONE;
            if (sort == NONE) {
                fail(FORM, start);
            } else {
                next();
            }
            return sort;
        }

        private void readLikes() {
            int person = known(PERSON);
            int at = start;
            int choice = known(CHOICE);
            if ((law.likes[person] >> choice & 1) == 1) {
                fail(AGAIN, at);
            }
            keyword("worth");
            int worth = whole(0, 99);
            law.toldWorth[person][choice] = worth;
            law.likes[person] |= 1 << choice;
            law.liked++;
        }

        private void readReason() {
            Reasons reasons = law.reasons;
            int k = reasons.count;
            int person = known(PERSON);
            int choice = known(CHOICE);
            keyword("at");
            int hour = whole(1, 12);
            keyword("odds");
            int odds = whole(0, 100);
            keyword("more");
            int more = whole(1, 50);
            if (fault == 0) {
                reasons.person[k] = person;
                reasons.choice[k] = choice;
                reasons.hour[k] = hour;
                reasons.odds[k] = odds;
                reasons.more[k] = more;
                reasons.count++;
            }
        }

        private void readPaid() {
            Receipts receipts = law.receipts;
            int k = receipts.count;
            int person = known(PERSON);
            int amount = whole(0, 999);
            keyword("hour");
            int at = start;
            int hour = whole(0, 99);
            if (hour <= receipts.latestHour(person)) {
                fail(BOUNDS, at);
            }
            if (fault == 0) {
                receipts.person[k] = person;
                receipts.amount[k] = amount;
                receipts.hour[k] = hour;
                receipts.count++;
            }
        }

        private void readShop() {
            newName(SHOP, law.shops.count);
            keyword("crowd");
            int crowd = whole(0, 99);
            if (fault == 0) {
                law.shops.crowd[law.shops.count] = crowd;
                law.shops.count++;
            }
        }

        private void readLane() {
            Shops shops = law.shops;
            int one = known(SHOP);
            int at = start;
            int other = known(SHOP);
            if (one == other || (shops.near[one] >> other & 1) == 1) {
                fail(AGAIN, at);
            }
            shops.near[one] |= 1 << other;
            shops.near[other] |= 1 << one;
            shops.lanes++;
        }

        private void keyword(String word) {
            if (fault != 0) {
                return;
            }
            if (is(word)) {
                next();
            } else {
                fail(FORM, start);
            }
        }

        private int whole(int least, int most) {
            if (fault != 0) {
                return least;
            }
            if (token != WHOLE) {
                fail(FORM, start);
                return least;
            }
            int value = 0;
            for (int i = start; i < end; i++) {
                value = 10 * value + (text[i] - '0');
            }
            if (value < least || value > most) {
                fail(BOUNDS, start);
                return least;
            }
            next();
            return value;
        }

        private void newName(int sort, int number) {
            if (token != WORD || lineSort() != NONE) {
                fail(FORM, start);
            } else if (findName() != NONE) {
                fail(AGAIN, start);
            } else if (names < MOST_NAMES) {
                nameStart[names] = start;
                nameEnd[names] = end;
                nameSort[names] = sort;
                nameNumber[names] = number;
                names++;
                next();
            }
        }

        /** The number of what must be told already of a sort; behind a fault 0, which every row has room for. */
        private int known(int sort) {
            if (fault != 0) {
                return 0;
            }
            if (token != WORD || lineSort() != NONE) {
                fail(FORM, start);
                return 0;
            }
            int name = findName();
            if (name < 0 || nameSort[name] != sort) {
                fail(UNTOLD, start);
                return 0;
            }
            next();
            return nameNumber[name];
        }

        private int findName() {
            for (int name = 0; name < names; name++) {
                if (isSpelled(nameStart[name], nameEnd[name])) {
                    return name;
                }
            }
            return NONE;
        }

        private boolean isSpelled(int from, int to) {
            if (to - from != end - start) {
                return false;
            }
            for (int i = 0; i < to - from; i++) {
                if (text[from + i] != text[start + i]) {
                    return false;
                }
            }
            return true;
        }
    }
}
