import java.lang.reflect.Method;
import java.util.Arrays;
import java.util.Map;
import java.util.Random;
import java.util.TreeMap;

/**
 * Every call that may be refused, with numbers by chance around its bounds, in states by chance: which TROUBLE is due is
 * told by a table of the document's own numbers, a refused call changes nothing, and asking changes nothing either.
 */
public final class RefusedTest {
    /** Of each call what its numbers are: P person, C choice, K reason, R receipt, S shop, M mark, a..b bounds; - a boolean. */
    private static final Map<String, String> CALLS = new TreeMap<>(Map.ofEntries(
        call("person", "P 0..5!"), call("far", "C C"), call("worth", "P C"), call("tax", "P C"), call("chooses", "P"),
        call("waverers", ""), call("holders", "C"), call("fashion", ""), call("came", "K"), call("paid", ""),
        call("farthest", ""), call("plan", "P 1..4 -"), call("planFirst", "P 1..4"), call("stays", "P 1..4 -"),
        call("planBy", "P 1..4 C -"), call("raised", ""), call("harm", ""), call("raisedBy", "0..9"),
        call("harmBy", "0..9"), call("bestTable", ""), call("raisedThird", "1..4"), call("harmThird", "1..4"),
        call("stillTable", ""), call("rows", "P"), call("could", "R"), call("surely", "R"), call("firstOf", "R"),
        call("ask", ""), call("askLeaves", ""), call("liar", ""), call("caught", "0..6"), call("places", "0..6"),
        call("enough", ""), call("catches", "S"), call("two", "P - P - -"), call("rests", "P P"), call("rest", "P P"),
        call("year", "0..65536 0..60"), call("yearHeld", "P 0..65536 0..60"), call("yearChanges", "0..65536 0..60"),
        call("change", "P C"), call("hours", "1..24"), call("seed", "0..65536"), call("undo", ""), call("mark", ""),
        call("back", "M")));
    private static final String[] LAWS = {
        "tax root 4 third 3;choice a;choice b;choice c;far a b by 7;far b c by 3;person p plain holds a;"
            + "person q proud holds b;person r mad holds c;likes p b worth 30;likes q a worth 40;likes q c worth 9;"
            + "reason p c at 2 odds 50 more 40;reason q c at 9 odds 70 more 50;paid p 7 hour 1;paid p 3 hour 2;"
            + "paid q 14 hour 3;shop s crowd 5;shop t crowd 9;shop u crowd 0;lane s t",
        "tax root 9 third 4;choice a;choice b;person p child holds a;person q plain holds a;likes q b worth 2",
        "tax root 0 third 1;choice a"};

    private static final String[] CHANGING = {"change", "hours", "seed", "undo", "mark", "back"};

    private final Random random;
    private final WaverTax x = new WaverTax();
    private boolean lawful = false;

    private RefusedTest(Random random) {
        this.random = random;
    }

    private static Map.Entry<String, String> call(String name, String numbers) {
        return Map.entry(name, numbers);
    }

    public static void main(String[] args) throws ReflectiveOperationException {
        int[] met = new int[7];
        for (int run = 0; run < 20000; run++) {
            RefusedTest test = new RefusedTest(new Random(run));
            test.prepare();
            // two calls an object: with all that is asked around them it stays below 512 calls
            for (int call = 0; call < 2; call++) {
                met[test.callAny()]++;
            }
        }
        for (int trouble : new int[] {0, 1, 2, 3, 5, 6}) {
            Check.due("TROUBLE " + trouble + " was met often", met[trouble] > 50, true);
        }
        Check.due("every call that may be refused is in the table", CALLS.size(), 53 - 7);
        Check.end();
    }

    private void prepare() {
        int which = random.nextInt(LAWS.length + 1);
        if (which < LAWS.length) {
            Check.laws(x, LAWS[which]);
            lawful = true;
        }
        boolean late = random.nextInt(3) == 0;
        // near the last hour, so that there is no room for more now and then
        for (int i = 0; i < 41 && late; i++) {
            x.hours(24);
        }
        for (int i = random.nextInt(4); i > 0; i--) {
            x.mark();
        }
        for (int i = random.nextInt(6); i > 0; i--) {
            x.change(random.nextInt(3), random.nextInt(3));
        }
        if (random.nextInt(5) == 0) {
            x.back(0);
        }
    }

    private int callAny() throws ReflectiveOperationException {
        String[] all = CALLS.keySet().toArray(new String[0]);
        String[] names = random.nextInt(4) == 0 ? CHANGING : all;
        String name = names[random.nextInt(names.length)];
        String[] kinds = CALLS.get(name).isEmpty() ? new String[0] : CALLS.get(name).split(" ");
        Object[] with = new Object[kinds.length];
        for (int i = 0; i < kinds.length; i++) {
            with[i] = kinds[i].equals("-") ? (Object) random.nextBoolean() : (Object) number(kinds[i]);
        }
        int due = trouble(name, kinds, with);
        String stood = Edge.stand(x);
        Method method = Arrays.stream(WaverTax.class.getMethods()).filter(m -> m.getName().equals(name)).findFirst().get();
        long got = asLong(method.invoke(x, with));
        String call = name + Arrays.toString(with) + " ";
        Check.due(call + "then trouble()", x.trouble(), due);
        Check.due(call + "then where()", x.where(), -1);
        if (due != 0) {
            Check.due(call + "is refused", got, refusal(name, method));
        }
        if (due != 0 || !Arrays.asList(CHANGING).contains(name)) {
            Check.due(call + "leaves all as it stood", Edge.stand(x).equals(stood), true);
        }
        return due;
    }

    private static long asLong(Object answer) {
        return answer instanceof Boolean b ? b ? 1 : 0 : ((Number) answer).longValue();
    }

    private static long refusal(String name, Method method) {
        if (name.equals("two")) {
            return -1000;
        }
        return method.getReturnType() == boolean.class ? 0 : method.getReturnType() == long.class ? Long.MIN_VALUE : -1;
    }

    private int number(String kind) {
        int chance = random.nextInt(12);
        if (chance == 0) {
            return random.nextInt();
        }
        if (chance == 1) {
            return random.nextBoolean() ? Integer.MIN_VALUE : Integer.MAX_VALUE;
        }
        if (!kind.contains("..")) {
            return random.nextInt(countOf(kind) + 2) - 1;
        }
        int least = bound(kind, 0);
        int most = bound(kind, 1);
        int near = random.nextInt(3) - 1;
        return chance < 6 ? (chance < 4 ? least : most) + near : least + random.nextInt(most - least + 1);
    }

    private static int bound(String kind, int which) {
        return Integer.parseInt(kind.replace("!", "").split("\\.\\.")[which]);
    }

    private int countOf(String kind) {
        return x.size("..CPLKRS....M".indexOf(kind));
    }

    /** Whatever the document tells as 1 comes ahead of 2, and 2 ahead of all else. */
    private int trouble(String name, String[] kinds, Object[] with) {
        if (name.equals("undo")) {
            return x.size(11) == 0 ? 6 : 0;
        }
        int due = lawful ? 0 : 1;
        for (int i = 0; i < kinds.length; i++) {
            if (!kinds[i].equals("-")) {
                int value = (Integer) with[i];
                boolean bounded = kinds[i].contains("..");
                boolean out = bounded ? value < bound(kinds[i], 0) || value > bound(kinds[i], 1)
                    : value < 0 || value >= countOf(kinds[i]);
                if (out) {
                    due = bounded && !kinds[i].endsWith("!") && due != 1 ? 2 : 1;
                }
            }
        }
        boolean two = Arrays.asList("two", "rests", "rest").contains(name);
        if (two && with[0].equals(with[name.equals("two") ? 2 : 1])) {
            due = 1;
        }
        return due == 0 ? special(name, with) : due;
    }

    private int special(String name, Object[] with) {
        switch (name) {
            case "change":
                return x.person((Integer) with[0], 2) == (Integer) with[1] ? 5 : 0;
            case "hours":
                return x.size(9) + (Integer) with[0] > 999 ? 3 : 0;
            case "mark":
                return x.size(12) == 3 ? 3 : 0;
            case "rows":
                return x.size(6) == 0 || (Integer) with[0] == 2 ? 6 : 0;
            default:
                return 0;
        }
    }
}
