import java.util.ArrayList;
import java.util.HashMap;
import java.util.List;
import java.util.Map;
import java.util.regex.Matcher;
import java.util.regex.Pattern;

/**
 * Section 1 once more, in another way than the class reads a text: first all tokens, then each statement by
 * the list of what has to stand behind its word.
 */
final class TextModel {
    private static final Pattern TOKEN = Pattern.compile("[a-z]+|[0-9]+|[^ ]", Pattern.DOTALL);
    private static final List<String> RULES = List.of("fcfs", "near", "scan", "wrap", "band");
    private static final List<String> MASTERS = List.of("draw", "lead", "keep");
    private static final List<String> FOES = List.of("none", "far", "mirror", "ends", "list", "hurt");
    private static final List<String> OTHERS =
            List.of("cost", "rule", "master", "mix", "foe", "ask", "rival", "budget", "bound");

    /** A word, a number or another byte, and where it stands. */
    record Token(String text, int position) {
    }

    int error;
    int position;
    final List<int[]> rules = new ArrayList<>();
    final List<Integer> asks = new ArrayList<>();
    /** The numbers of the statement of each word that counts. */
    final Map<String, int[]> told = new HashMap<>();
    private final List<Token> tokens = new ArrayList<>();
    private final int length;
    private int next = 0;

    TextModel(String text) {
        length = text.length();
        Matcher matcher = TOKEN.matcher(text);
        while (matcher.find()) {
            tokens.add(new Token(matcher.group(), matcher.start()));
        }
        read();
    }

    private void read() {
        statement(List.of("drive"));
        while (error == 0 && next < tokens.size()) {
            word(List.of(";"));
            statement(OTHERS);
        }
        if (error == 0 && rules.isEmpty()) {
            rules.add(new int[] {0, -1});
        }
    }

    private void statement(List<String> words) {
        int at = next < tokens.size() ? tokens.get(next).position() : length;
        int place = word(words);
        if (error != 0) {
            return;
        }
        String name = words.get(place);
        if (name.equals("rule") && rules.size() == 6 || name.equals("ask") && asks.size() == 16) {
            fail(3, at);
            return;
        }
        int[] numbers = numbers(name);
        if (error != 0) {
            return;
        }
        if (name.equals("rule")) {
            rules.add(numbers);
        } else if (name.equals("ask")) {
            asks.add(numbers[0]);
        } else {
            told.put(name, numbers);
        }
    }

    private int[] numbers(String name) {
        switch (name) {
            case "drive":
                int cylinders = number(2, 100);
                return new int[] {cylinders, number(0, cylinders - 1)};
            case "cost":
                return new int[] {number(0, 99), number(1, 99)};
            case "rule":
                int kind = word(RULES);
                return new int[] {kind, kind == 4 ? number(0, 99) : -1};
            case "mix":
                return new int[] {number(1, 500), number(0, 32767)};
            case "foe":
                return new int[] {word(FOES)};
            case "ask":
                return new int[] {number(0, told.get("drive")[0] - 1)};
            case "budget":
                return new int[] {number(0, 999)};
            case "bound":
                return new int[] {number(0, 99999), number(0, 9999)};
            default:
                int way = word(MASTERS);
                return new int[] {way, way == 2 ? number(0, rules.size() - 1) : -1};
        }
    }

    /** The settings that a new object has by this text. */
    int[] settings() {
        int[] drive = told.get("drive");
        int[] cost = told.getOrDefault("cost", new int[] {0, 1});
        int[] master = told.getOrDefault("master", new int[] {2, 0});
        int[] mix = told.getOrDefault("mix", new int[] {100, 1});
        int[] bound = told.getOrDefault("bound", new int[] {-1, -1});
        return new int[] {drive[0], drive[1], cost[0], cost[1], rules.size(), master[0], master[1], mix[0], mix[1],
            told.getOrDefault("foe", new int[] {0})[0], asks.size(), bound[0], bound[1],
            told.getOrDefault("budget", new int[] {-1})[0], 0};
    }

    private int word(List<String> words) {
        if (error != 0) {
            return -1;
        }
        if (next == tokens.size()) {
            fail(1, length);
            return -1;
        }
        Token token = tokens.get(next);
        next++;
        int place = words.indexOf(token.text());
        if (place < 0) {
            fail(1, token.position());
        }
        return place;
    }

    private int number(int least, int most) {
        if (error != 0) {
            return 0;
        }
        if (next == tokens.size()) {
            fail(1, length);
            return 0;
        }
        Token token = tokens.get(next);
        next++;
        if (!token.text().matches("[0-9]+")) {
            fail(1, token.position());
            return 0;
        }
        String digits = token.text().replaceFirst("^0+", "");
        int value = digits.isEmpty() ? 0 : digits.length() > 8 ? 99999999 : Integer.parseInt(digits);
        if (value < least || value > most) {
            fail(2, token.position());
        }
        return value;
    }

    private void fail(int number, int at) {
        error = number;
        position = at;
    }
}
