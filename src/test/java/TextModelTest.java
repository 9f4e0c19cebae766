import java.util.ArrayList;
import java.util.Arrays;
import java.util.HashMap;
import java.util.HashSet;
import java.util.List;
import java.util.Map;
import java.util.Random;
import java.util.Set;
import java.util.TreeSet;
import java.util.regex.Matcher;
import java.util.regex.Pattern;

/**
 * Texts by chance, most of them with faults (Terms I, promises 3 to 5), against a second reader. It is written otherwise
 * than the class: the lines stand in a table, and of each TOKEN all faults are gathered, of which the least is due.
 */
public final class TextModelTest {
    /** Of each line its pieces: +x tells a NAME of a sort, =x uses one, a..b is a WHOLE, SORT a person's, else a WORD. */
    private static final String[] LINES = {
        "tax root 0..9 third 1..4", "choice +choice", "far =choice =choice by 1..9", "person +person SORT holds =choice",
        "likes =person =choice worth 0..99", "reason =person =choice at 1..12 odds 0..100 more 1..50",
        "paid =person 0..999 hour 0..99", "shop +shop crowd 0..99", "lane =shop =shop"};
    private static final Map<String, Integer> ROOM =
        Map.of("choice", 5, "person", 5, "likes", 12, "reason", 4, "paid", 5, "shop", 6, "lane", 8);
    private static final List<String> SORTS = List.of("plain", "mad", "child", "proud");
    private static final Map<String, String[]> PIECES = pieces();
    private static final Pattern TOKEN = Pattern.compile("[a-z]+|[0-9]+|[^ ]");

    private static Map<String, String[]> pieces() {
        Map<String, String[]> pieces = new HashMap<>();
        for (String line : LINES) {
            String[] parts = line.split(" ");
            pieces.put(parts[0], parts);
        }
        return pieces;
    }

    /** Reads one text; behind it, fault is 0 and the rest tells the law, or fault and place are due. */
    private static final class Second {
        int fault = 0;
        int place = 0;
        final Map<String, Integer> lines = new HashMap<>();
        final Map<String, String> sortOf = new HashMap<>();
        final Map<String, List<String>> names = Map.of("choice", new ArrayList<>(), "person", new ArrayList<>(),
            "shop", new ArrayList<>());
        final Map<String, Integer> latest = new HashMap<>();
        /** Pairs of which a far, likes or lane is told, with its WHOLE. */
        final Map<String, Integer> pairs = new HashMap<>();
        final List<String> sorts = new ArrayList<>();
        final List<String> firsts = new ArrayList<>();
        final List<String> taxes = new ArrayList<>();
        private final List<String> line = new ArrayList<>();

        Second(String text) {
            Matcher token = TOKEN.matcher(text);
            while (fault == 0 && token.find()) {
                meet(token.group(), token.start());
            }
            if (fault == 0) {
                meet("", text.length());
            }
        }

        private void meet(String token, int at) {
            Set<Integer> faults = faultsOf(token);
            if (!faults.isEmpty()) {
                fault = faults.stream().min(Integer::compare).get();
                place = at;
            } else if (token.equals(";") || token.isEmpty()) {
                tell();
                line.clear();
            } else {
                line.add(token);
            }
        }

        private Set<Integer> faultsOf(String token) {
            Set<Integer> faults = new TreeSet<>();
            boolean ends = token.equals(";") || token.isEmpty();
            if (token.length() > 8 || token.matches("[0-9]{4,}") || !token.matches("[a-z]*|[0-9]*|;")) {
                faults.add(1);
            }
            if (token.isEmpty() && names.get("choice").isEmpty() && !begins("choice", 2)) {
                faults.add(6);
            }
            if (line.isEmpty()) {
                firstWord(token, faults);
            } else if (line.size() == PIECES.get(line.get(0)).length) {
                if (!ends) {
                    faults.add(1);
                }
            } else {
                piece(PIECES.get(line.get(0))[line.size()], token, faults);
            }
            return faults;
        }

        private boolean begins(String word, int size) {
            return line.size() == size && line.get(0).equals(word);
        }

        private void firstWord(String token, Set<Integer> faults) {
            if (!PIECES.containsKey(token)) {
                faults.add(1);
            }
            boolean tax = lines.containsKey("tax");
            if (token.equals("tax") && tax) {
                faults.add(3);
            }
            if (lines.getOrDefault(token, 0) >= ROOM.getOrDefault(token, 1000)) {
                faults.add(5);
            }
            if (!token.equals("tax") && !tax) {
                faults.add(6);
            }
        }

        private void piece(String piece, String token, Set<Integer> faults) {
            boolean name = token.matches("[a-z]+") && !PIECES.containsKey(token);
            if (piece.contains("..")) {
                whole(piece, token, faults);
            } else if (piece.startsWith("+")) {
                if (!name) {
                    faults.add(1);
                }
                if (sortOf.containsKey(token)) {
                    faults.add(3);
                }
            } else if (piece.startsWith("=")) {
                if (!name) {
                    faults.add(1);
                }
                if (!piece.substring(1).equals(sortOf.get(token))) {
                    faults.add(2);
                }
                if (line.size() == 2 && (line.get(1).equals(token) || pairs.containsKey(pair(line.get(1), token)))
                    && !line.get(0).equals("reason")) {
                    faults.add(3);
                }
            } else if (piece.equals("SORT") ? !SORTS.contains(token) : !piece.equals(token)) {
                faults.add(1);
            }
        }

        private void whole(String piece, String token, Set<Integer> faults) {
            if (!token.matches("[0-9]{1,3}")) {
                faults.add(1);
                return;
            }
            String[] bounds = piece.split("\\.\\.");
            int value = Integer.parseInt(token);
            if (value < Integer.parseInt(bounds[0]) || value > Integer.parseInt(bounds[1])) {
                faults.add(4);
            }
            if (begins("paid", 4) && value <= latest.getOrDefault(line.get(1), -1)) {
                faults.add(4);
            }
        }

        private static String pair(String a, String b) {
            return a.compareTo(b) < 0 ? a + " " + b : b + " " + a;
        }

        private void tell() {
            String word = line.get(0);
            lines.merge(word, 1, Integer::sum);
            if (names.containsKey(word)) {
                names.get(word).add(line.get(1));
                sortOf.put(line.get(1), word);
            }
            switch (word) {
                case "tax" -> taxes.addAll(List.of(line.get(2), line.get(4)));
                case "person" -> {
                    sorts.add(line.get(2));
                    firsts.add(line.get(4));
                }
                case "far", "likes" -> pairs.put(pair(line.get(1), line.get(2)), Integer.parseInt(line.get(4)));
                case "lane" -> pairs.put(pair(line.get(1), line.get(2)), 0);
                case "paid" -> latest.put(line.get(1), Integer.parseInt(line.get(4)));
                default -> { }
            }
        }
    }

    private static final String[] ANY = {"tax", "choice", "far", "person", "likes", "reason", "paid", "shop", "lane", "root",
        "third", "by", "holds", "worth", "at", "odds", "more", "hour", "crowd", "plain", "mad", "proud", "a", "b", "p", "q",
        "s", "zz", "abcdefgh", "abcdefghi", ";", ";", "0", "1", "5", "9", "10", "12", "13", "50", "51", "99", "100", "101",
        "999", "000", "0100", "1000", "A", "-", ",", "\t", "\u00e9", "\u0000", "{", "`", "/", ":"};
    private static final int[] EDGES = {0, 1, 2, 4, 5, 9, 10, 12, 13, 50, 51, 99, 100, 101, 999};

    private final Random random;
    private final List<String> tokens = new ArrayList<>();
    private final Map<String, List<String>> told = Map.of("choice", new ArrayList<>(), "person", new ArrayList<>(),
        "shop", new ArrayList<>());
    private final Set<String> used = new HashSet<>();
    private final Map<String, Integer> hours = new HashMap<>();

    private TextModelTest(Random random) {
        this.random = random;
    }

    public static void main(String[] args) {
        int[] met = new int[7];
        int run = 0;
        for (int object = 0; object < 8000; object++) {
            WaverTax x = new WaverTax();
            // two texts an object: with all that is asked of them it stays below 512 calls
            for (int text = 0; text < 2; text++) {
                met[tell(x, new TextModelTest(new Random(run)).text())]++;
                run++;
            }
        }
        for (int fault = 0; fault <= 6; fault++) {
            Check.due("texts with fault " + fault + ": some were met", met[fault] > 100, true);
        }
        Check.end();
    }

    private static int tell(WaverTax x, String text) {
        Second due = new Second(text);
        String stood = Edge.stand(x);
        int people = Check.laws(x, text);
        String call = "of " + text + " ";
        Check.due("trouble() " + call, x.trouble(), due.fault == 0 ? 0 : 4);
        Check.due("fault() " + call, x.fault(), due.fault);
        Check.due("where() " + call, x.where(), due.fault == 0 ? -1 : due.place);
        Check.due("laws() " + call, people, due.fault == 0 ? due.names.get("person").size() : -1);
        Check.due("size(13) " + call, x.size(13), 0);
        if (due.fault == 0) {
            sizes(x, call, due);
            people(x, call, due);
        } else {
            Check.due("how all stands " + call, Edge.stand(x).equals(stood), true);
        }
        return due.fault;
    }

    private static void sizes(WaverTax x, String call, Second due) {
        String[] words = {"choice", "person", "likes", "reason", "paid", "shop", "lane"};
        Check.due("root " + call, x.size(0), Integer.parseInt(due.taxes.get(0)));
        Check.due("third " + call, x.size(1), Integer.parseInt(due.taxes.get(1)));
        for (int i = 0; i < words.length; i++) {
            Check.due(words[i] + " " + call, x.size(i + 2), due.lines.getOrDefault(words[i], 0));
        }
        for (int what = 9; what <= 12; what++) {
            Check.due("size(" + what + ") " + call, x.size(what), 0);
        }
    }

    private static void people(WaverTax x, String call, Second due) {
        List<String> choices = due.names.get("choice");
        for (int c = 0; c < choices.size(); c++) {
            for (int d = 0; d < choices.size(); d++) {
                int far = due.pairs.getOrDefault(Second.pair(choices.get(c), choices.get(d)), 1);
                Check.due("far() " + call, x.far(c, d), c == d ? 0 : far);
            }
        }
        for (int p = 0; p < due.sorts.size(); p++) {
            Check.due("sort " + call, x.person(p, 0), SORTS.indexOf(due.sorts.get(p)));
            Check.due("first " + call, x.person(p, 1), choices.indexOf(due.firsts.get(p)));
            for (int c = 0; c < choices.size(); c++) {
                String pair = Second.pair(due.names.get("person").get(p), choices.get(c));
                Check.due("worth() " + call, x.worth(p, c), due.pairs.getOrDefault(pair, 0));
            }
        }
    }

    // ---- a text by chance

    private String text() {
        addLine("tax");
        addLine("choice");
        int most = random.nextInt(34);
        String[] words = PIECES.keySet().stream().sorted().filter(w -> !w.equals("tax")).toArray(String[]::new);
        // now and then one sort of line alone, so that there is a line too many
        String one = words[random.nextInt(words.length)];
        boolean alone = random.nextInt(3) == 0;
        for (int i = 0; i < most; i++) {
            addLine(alone && i > 5 ? one : words[random.nextInt(words.length)]);
        }
        int changes = Math.max(0, random.nextInt(5) - 1);
        for (int i = 0; i < changes; i++) {
            changeToken();
        }
        StringBuilder text = new StringBuilder(joined());
        if (random.nextInt(8) == 0) {
            changeByte(text);
        }
        return text.length() > 900 ? text.substring(0, 900) : text.toString();
    }

    private void addLine(String word) {
        List<String> line = new ArrayList<>();
        for (String piece : PIECES.get(word)) {
            String token = tokenFor(piece, line);
            if (token == null) {
                return;
            }
            line.add(token);
        }
        boolean pairs = List.of("far", "likes", "lane").contains(word);
        // mostly unlike and once, as it should be
        if (pairs && random.nextInt(12) > 0
            && (line.get(1).equals(line.get(2)) || !used.add(Second.pair(line.get(1), line.get(2))))) {
            return;
        }
        if (told.containsKey(word)) {
            told.get(word).add(line.get(1));
        }
        if (!tokens.isEmpty()) {
            tokens.add(";");
        }
        tokens.addAll(line);
    }

    private String tokenFor(String piece, List<String> line) {
        if (piece.contains("..")) {
            String[] bounds = piece.split("\\.\\.");
            int least = Integer.parseInt(bounds[0]);
            int most = Integer.parseInt(bounds[1]);
            int value = random.nextInt(4) == 0 ? random.nextBoolean() ? least : most : least + random.nextInt(most - least + 1);
            if (line.size() == 4 && line.get(0).equals("paid") && random.nextInt(12) > 0) {
                value = hours.merge(line.get(1), 1 + random.nextInt(9), Integer::sum);
            }
            if (random.nextInt(150) == 0) {
                value = random.nextBoolean() || least == 0 ? most + 1 : least - 1;
            }
            return random.nextInt(20) == 0 && value < 10 ? "00" + value : "" + value;
        }
        if (piece.startsWith("+")) {
            char letter = (char) ('a' + random.nextInt(26));
            return random.nextInt(4) == 0 ? "" + letter : piece.charAt(1) + "" + letter + "x".repeat(random.nextInt(7));
        }
        if (piece.startsWith("=")) {
            List<String> names = told.get(piece.substring(1));
            return names.isEmpty() ? null : names.get(random.nextInt(names.size()));
        }
        return piece.equals("SORT") ? SORTS.get(random.nextInt(4)) : piece;
    }

    private void changeToken() {
        int at = random.nextInt(tokens.size());
        String any = ANY[random.nextInt(ANY.length)];
        switch (random.nextInt(8)) {
            case 0 -> tokens.remove(at);
            case 1 -> tokens.add(at, tokens.get(random.nextInt(tokens.size())));
            case 2 -> tokens.set(at, any);
            case 3 -> tokens.add(at, any);
            case 4 -> tokens.set(at, tokens.get(random.nextInt(tokens.size())));
            case 5 -> tokens.subList(at, tokens.size()).clear();
            case 6 -> changeWhole(at);
            default -> swapLines(at);
        }
        if (tokens.isEmpty()) {
            tokens.add(any);
        }
    }

    private void changeWhole(int from) {
        for (int at = from; at < tokens.size(); at++) {
            if (Character.isDigit(tokens.get(at).charAt(0))) {
                tokens.set(at, "" + EDGES[random.nextInt(EDGES.length)]);
                return;
            }
        }
    }

    private void swapLines(int at) {
        List<String> lines = new ArrayList<>(Arrays.asList(String.join(" ", tokens).split(";")));
        if (lines.isEmpty()) {
            return;
        }
        String line = lines.remove(at % lines.size());
        lines.add(random.nextInt(lines.size() + 1), line);
        tokens.clear();
        for (int i = 0; i < lines.size(); i++) {
            if (i > 0) {
                tokens.add(";");
            }
            for (String token : lines.get(i).trim().split(" +")) {
                if (!token.isEmpty()) {
                    tokens.add(token);
                }
            }
        }
    }

    private String joined() {
        StringBuilder text = new StringBuilder();
        int blanks = random.nextInt(3);
        for (String token : tokens) {
            boolean needed = text.length() > 0 && !token.isEmpty()
                && Character.isLetterOrDigit(text.charAt(text.length() - 1)) && Character.isLetterOrDigit(token.charAt(0));
            text.append(" ".repeat((needed && random.nextInt(60) > 0 ? 1 : 0) + (random.nextInt(9) < blanks ? 1 : 0)));
            text.append(token);
        }
        return text.append(" ".repeat(random.nextInt(4) == 0 ? 3 : 0)).toString();
    }

    private void changeByte(StringBuilder text) {
        int at = random.nextInt(text.length() + 1);
        if (random.nextBoolean() || at == text.length()) {
            text.insert(at, (char) random.nextInt(256));
        } else {
            text.deleteCharAt(at);
        }
    }
}
