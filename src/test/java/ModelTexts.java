import java.util.ArrayList;
import java.util.HashMap;
import java.util.LinkedHashSet;
import java.util.List;
import java.util.Map;
import java.util.Objects;
import java.util.regex.Matcher;
import java.util.regex.Pattern;

/** The texts once more: heaths byte by byte, walks by a pattern, laws by a chart of all readings. */
final class ModelTexts {
    private static final int NONE = -1;
    private static final Map<Character, String> ITEMS =
        Map.of('s', "whay", 'v', "cdf", 'i', "cd", 'k', "cp", 'f', "cwixeg");
    private static final Map<String, int[]> BOUNDS = bounds();
    private static final Pattern WALKS = Pattern.compile(" *[0-9] *(?:[rdlu] *){1,8}(?:; *[0-9] *(?:[rdlu] *){1,8}){0,7}");

    private ModelTexts() {
    }

    private static Map<String, int[]> bounds() {
        Map<String, int[]> bounds = new HashMap<>();
        String all = "sw1,6,5 sh1,5,4 sa0,9,2 sy1,9,1 vc0,29,0 vd1,60,20 vf0,9,0 ic0,29,0 id1,9,2 kc0,29,0 kp1,9,1 "
            + "fc0,29,0 fw0,60,30 fi0,9,0 fx0,30,30 fe0,9,0 fg0,1,0";
        for (String one : all.split(" ")) {
            String[] numbers = one.substring(2).split(",");
            bounds.put(one.substring(0, 2), new int[] {Integer.parseInt(numbers[0]), Integer.parseInt(numbers[1]),
                Integer.parseInt(numbers[2])});
        }
        return bounds;
    }

    // ---- heaths ----

    /** A clause as it is read. */
    private static final class Clause {
        final char kind;
        final Map<Character, Integer> items = new HashMap<>();
        String course = null;

        Clause(char kind) {
            this.kind = kind;
        }

        int item(char letter) {
            return items.getOrDefault(letter, BOUNDS.get("" + kind + letter)[2]);
        }
    }

    static int heathFault(String text, Model.Ground ground) {
        List<Clause> clauses = new ArrayList<>();
        Clause clause = null;
        char item = 0;
        String digits = "";
        for (int i = 0; i <= text.length(); i++) {
            char sign = i < text.length() ? text.charAt(i) : 0;
            if (item != 0) {
                if (sign >= '0' && sign <= '9') {
                    if (digits.length() == 2) {
                        return i;
                    }
                    digits += sign;
                    continue;
                }
                if (digits.isEmpty()) {
                    if (sign == ' ') {
                        continue;
                    }
                    return i;
                }
                int[] bounds = BOUNDS.get("" + clause.kind + item);
                int value = Integer.parseInt(digits);
                if (value < bounds[0] || value > bounds[1]) {
                    return i - 1;
                }
                clause.items.put(item, value);
                item = 0;
                digits = "";
            }
            if (sign == ' ') {
                continue;
            }
            if (i == text.length()) {
                break;
            }
            if (clause == null) {
                int most = Map.of('s', 1, 'v', 4, 'i', 6, 'k', 6, 'f', 6).getOrDefault(sign, 0);
                if (clauses.stream().filter(c -> c.kind == sign).count() >= most) {
                    return i;
                }
                clause = new Clause(sign);
                clauses.add(clause);
            } else if (sign == ';') {
                if ("".equals(clause.course)) {
                    return i;
                }
                clause = null;
            } else if (clause.course != null) {
                if ("rdlu".indexOf(sign) < 0 || clause.course.length() == 8) {
                    return i;
                }
                clause.course += sign;
            } else if (sign == ':' && clause.kind == 'v') {
                clause.course = "";
            } else if (ITEMS.get(clause.kind).indexOf(sign) >= 0 && !clause.items.containsKey(sign)) {
                item = sign;
            } else {
                return i;
            }
        }
        boolean whole = clause != null && !"".equals(clause.course);
        return whole && lay(clauses, ground) ? NONE : text.length();
    }

    private static boolean lay(List<Clause> clauses, Model.Ground ground) {
        for (Clause clause : clauses) {
            if (clause.kind == 's') {
                ground.width = clause.item('w');
                ground.height = clause.item('h');
                ground.deeper = clause.item('a');
                ground.foot = clause.item('y');
            }
        }
        for (Clause clause : clauses) {
            if (clause.kind == 's') {
                continue;
            }
            int cell = clause.item('c');
            if (cell >= ground.cells()) {
                return false;
            }
            if (clause.kind == 'i' && ground.irons.put(cell, clause.item('d')) != null) {
                return false;
            }
            if (clause.kind == 'k' && ground.rocks.put(cell, clause.item('p')) != null) {
                return false;
            }
            if (clause.kind == 'f') {
                Map<Character, Integer> fork = new HashMap<>();
                for (char letter : "cwixeg".toCharArray()) {
                    fork.put(letter, clause.item(letter));
                }
                ground.forks.add(fork);
            }
            if (clause.kind == 'v' && !layVein(clause, ground)) {
                return false;
            }
        }
        return !ground.forks.isEmpty();
    }

    private static boolean layVein(Clause clause, Model.Ground ground) {
        List<Integer> cells = new ArrayList<>(List.of(clause.item('c')));
        for (char way : Objects.requireNonNullElse(clause.course, "").toCharArray()) {
            int to = ground.beside(cells.get(cells.size() - 1), "rdlu".indexOf(way));
            if (to == NONE) {
                return false;
            }
            cells.add(to);
        }
        ground.veins.add(cells);
        ground.veinNumbers.add(new int[] {clause.item('d'), clause.item('f')});
        return true;
    }

    // ---- walks ----

    static int walksFault(String text) {
        for (int length = 1; length <= text.length(); length++) {
            Matcher matcher = WALKS.matcher(text.substring(0, length));
            if (!matcher.matches() && !matcher.hitEnd()) {
                return length - 1;
            }
        }
        return WALKS.matcher(text).matches() ? NONE : text.length();
    }

    // ---- laws: a chart in Earley's way, over rules told as words ----

    private static final Map<String, List<String[]>> RULES = rules();

    private static Map<String, List<String[]>> rules() {
        Map<String, List<String[]>> rules = new HashMap<>();
        rule(rules, "law", "clause");
        rule(rules, "law", "law ; clause");
        rule(rules, "clause", "y : sum0");
        rule(rules, "clause", "y : condition0 ? sum0");
        for (int n = 0; n <= 6; n++) {
            rule(rules, "condition" + n, "truth" + n);
            rule(rules, "condition" + n, "condition" + n + " | truth" + n);
            rule(rules, "truth" + n, "unit" + n);
            rule(rules, "truth" + n, "truth" + n + " & unit" + n);
            for (String sign : "= < >".split(" ")) {
                rule(rules, "unit" + n, "sum" + n + " " + sign + " sum" + n);
            }
            rule(rules, "sum" + n, "term" + n);
            rule(rules, "sum" + n, "sum" + n + " + term" + n);
            rule(rules, "sum" + n, "sum" + n + " - term" + n);
            rule(rules, "term" + n, "atom" + n);
            rule(rules, "term" + n, "term" + n + " * atom" + n);
            rule(rules, "term" + n, "term" + n + " / atom" + n);
            for (String letter : "d m i x s o".split(" ")) {
                rule(rules, "atom" + n, letter);
            }
            // # is a digit that begins a number, @ one that goes on without a blank.
            rule(rules, "atom" + n, "#");
            rule(rules, "atom" + n, "# @");
            rule(rules, "atom" + n, "# @ @");
            rule(rules, "atom" + n, "# @ @ @");
            if (n < 6) {
                rule(rules, "unit" + n, "! unit" + (n + 1));
                rule(rules, "unit" + n, "( condition" + (n + 1) + " )");
                rule(rules, "atom" + n, "[ sum" + (n + 1) + " ]");
            }
        }
        return rules;
    }

    private static void rule(Map<String, List<String[]>> rules, String name, String parts) {
        rules.computeIfAbsent(name, k -> new ArrayList<>()).add(parts.split(" "));
    }

    private record Reading(String name, String[] parts, int dot, int from) {
        String next() {
            return dot < parts.length ? parts[dot] : null;
        }

        Reading on() {
            return new Reading(name, parts, dot + 1, from);
        }
    }

    static int lawFault(String text) {
        List<LinkedHashSet<Reading>> chart = new ArrayList<>();
        LinkedHashSet<Reading> set = new LinkedHashSet<>();
        for (String[] parts : RULES.get("law")) {
            set.add(new Reading("law", parts, 0, 0));
        }
        chart.add(close(chart, set, 0));
        boolean inNumber = false;
        for (int i = 0; i < text.length(); i++) {
            char sign = text.charAt(i);
            if (sign == ' ') {
                inNumber = false;
                continue;
            }
            boolean digit = sign >= '0' && sign <= '9';
            String word = digit ? (inNumber ? "@" : "#") : String.valueOf(sign);
            inNumber = digit;
            LinkedHashSet<Reading> next = new LinkedHashSet<>();
            for (Reading reading : chart.get(chart.size() - 1)) {
                if (word.equals(reading.next())) {
                    next.add(reading.on());
                }
            }
            if (next.isEmpty()) {
                return i;
            }
            chart.add(close(chart, next, chart.size()));
        }
        for (Reading reading : chart.get(chart.size() - 1)) {
            if (reading.name().equals("law") && reading.next() == null && reading.from() == 0) {
                return NONE;
            }
        }
        return text.length();
    }

    private static LinkedHashSet<Reading> close(List<LinkedHashSet<Reading>> chart, LinkedHashSet<Reading> set, int at) {
        List<Reading> work = new ArrayList<>(set);
        for (int i = 0; i < work.size(); i++) {
            Reading reading = work.get(i);
            List<Reading> more = new ArrayList<>();
            if (reading.next() == null) {
                for (Reading waiting : reading.from() == at ? set : chart.get(reading.from())) {
                    if (reading.name().equals(waiting.next())) {
                        more.add(waiting.on());
                    }
                }
            } else {
                for (String[] parts : RULES.getOrDefault(reading.next(), List.of())) {
                    more.add(new Reading(reading.next(), parts, 0, at));
                }
            }
            for (Reading one : more) {
                if (set.add(one)) {
                    work.add(one);
                }
            }
        }
        return set;
    }

    // ---- laws: their worth, by cutting texts without blanks at their loosest sign ----

    static long worth(String law, Map<Character, Long> letters) {
        for (String clause : law.split(";")) {
            String rest = clause.substring(2);
            int ask = rest.indexOf('?');
            if (ask < 0 || holds(rest.substring(0, ask), letters)) {
                return sum(rest.substring(ask + 1), letters);
            }
        }
        return 0;
    }

    /** The last place outside brackets of one of the signs, or -1. */
    private static int cut(String text, String signs) {
        int depth = 0;
        for (int i = text.length() - 1; i >= 0; i--) {
            char sign = text.charAt(i);
            depth += sign == ')' || sign == ']' ? 1 : sign == '(' || sign == '[' ? -1 : 0;
            if (depth == 0 && signs.indexOf(sign) >= 0) {
                return i;
            }
        }
        return -1;
    }

    private static boolean holds(String text, Map<Character, Long> letters) {
        int at = cut(text, "|");
        if (at >= 0) {
            return holds(text.substring(0, at), letters) | holds(text.substring(at + 1), letters);
        }
        at = cut(text, "&");
        if (at >= 0) {
            return holds(text.substring(0, at), letters) & holds(text.substring(at + 1), letters);
        }
        if (text.charAt(0) == '!') {
            return !holds(text.substring(1), letters);
        }
        if (text.charAt(0) == '(') {
            return holds(text.substring(1, text.length() - 1), letters);
        }
        at = cut(text, "=<>");
        long left = sum(text.substring(0, at), letters);
        long right = sum(text.substring(at + 1), letters);
        char sign = text.charAt(at);
        return sign == '=' ? left == right : sign == '<' ? left < right : left > right;
    }

    private static long sum(String text, Map<Character, Long> letters) {
        int at = cut(text, "+-");
        at = at >= 0 ? at : cut(text, "*/");
        if (at >= 0) {
            long left = sum(text.substring(0, at), letters);
            long right = sum(text.substring(at + 1), letters);
            char sign = text.charAt(at);
            long value = sign == '+' ? left + right : sign == '-' ? left - right
                : sign == '*' ? left * right : right == 0 ? 0 : left / right;
            return Math.max(-1000000, Math.min(1000000, value));
        }
        if (text.charAt(0) == '[') {
            return sum(text.substring(1, text.length() - 1), letters);
        }
        Long letter = letters.get(text.charAt(0));
        return letter != null ? letter : Long.parseLong(text);
    }
}
