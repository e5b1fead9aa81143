import java.util.ArrayList;
import java.util.HashMap;
import java.util.HashSet;
import java.util.List;
import java.util.Map;
import java.util.Set;

/** Reads a text after patterns of its lines, for Plain. */
final class PlainText {
    private static final String[] PATTERNS = {
        "road #", "speed #", "gap #", "start #", "cross # wide # cycle # open # to # cars # serve #",
        "column # x #", "split #", "gather #", "broken # at # for #",
    };

    private final List<String> tokens = new ArrayList<>();
    private final List<Integer> places = new ArrayList<>();
    Plain.Told told = new Plain.Told();
    int fault;
    int place = -1;
    int lines;
    private final Set<String> seen = new HashSet<>();

    PlainText(List<Integer> bytes) {
        StringBuilder b = new StringBuilder();
        for (int x : bytes) {
            b.append((char) x);
        }
        String text = b.toString();
        java.util.regex.Matcher m = java.util.regex.Pattern.compile("[0-9]+|[a-z]+|[^ ]", java.util.regex.Pattern.DOTALL).matcher(text);
        while (m.find()) {
            tokens.add(m.group());
            places.add(m.start());
        }
        tokens.add("");
        places.add(text.length());
    }

    private boolean fail(int which, int token) {
        fault = which;
        place = places.get(token);
        return false;
    }

    void read() {
        Map<String, String[]> patterns = new HashMap<>();
        for (String p : PATTERNS) {
            patterns.put(p.split(" ")[0], p.split(" "));
        }
        int at = 0;
        while (!tokens.get(at).isEmpty()) {
            String[] pattern = patterns.get(tokens.get(at));
            if (pattern == null) {
                fail(1, at);
                return;
            }
            if (!begins(pattern[0], at)) {
                return;
            }
            List<Integer> numbers = new ArrayList<>();
            int first = at;
            for (String part : pattern) {
                String token = tokens.get(at);
                if (part.equals("#")) {
                    if (token.isEmpty() || !Character.isDigit(token.charAt(0))) {
                        fail(1, at);
                        return;
                    }
                    if (token.length() > 4 || !inBounds(pattern[0], numbers, Integer.parseInt(token))) {
                        fail(2, at);
                        return;
                    }
                    numbers.add(Integer.parseInt(token));
                } else if (!part.equals(token)) {
                    fail(1, at);
                    return;
                }
                at++;
            }
            if (!takes(pattern[0], numbers, first)) {
                return;
            }
            if (!tokens.get(at).equals(";")) {
                fail(1, at);
                return;
            }
            at++;
            lines++;
        }
    }

    private boolean begins(String word, int at) {
        boolean once = word.equals("road") || word.equals("speed") || word.equals("gap") || word.equals("start");
        if (once && seen.contains(word)) {
            return fail(1, at);
        }
        if (word.equals("road") && seen.contains("other")) {
            return fail(1, at);
        }
        seen.add(once ? word : "other");
        if (word.equals("cross") && told.crossings.size() == 10) {
            return fail(3, at);
        }
        if (word.equals("gather") && told.gathers.size() == 4) {
            return fail(3, at);
        }
        if (word.equals("broken") && told.broken.size() == 6) {
            return fail(3, at);
        }
        return true;
    }

    private boolean inBounds(String word, List<Integer> n, int x) {
        int least = 0;
        int most = 0;
        switch (word + n.size()) {
            case "road0": least = 10; most = 1000; break;
            case "speed0": least = 1; most = 50; break;
            case "gap0": most = 50; break;
            case "start0": most = 999; break;
            case "cross0":
                for (int[] c : told.crossings) {
                    least = c[0] + c[1];
                }
                most = told.length - 1;
                break;
            case "cross1": least = 1; most = Math.min(50, told.length - n.get(0)); break;
            case "cross2": least = 1; most = 200; break;
            case "cross3": most = n.get(2) - 1; break;
            case "cross4": least = n.get(3) + 1; most = n.get(2); break;
            case "cross5": most = 99; break;
            case "cross6": least = 1; most = 20; break;
            case "column0": least = 1; most = 30; break;
            case "column1": least = 1; most = 30; break;
            case "split0": most = told.cars.size() - 1; break;
            case "gather0":
                least = told.gathers.isEmpty() ? 1 : told.gathers.get(told.gathers.size() - 1) + 1;
                most = told.length;
                break;
            case "broken0": most = told.cars.size() - 1; break;
            case "broken1": most = 1999; break;
            case "broken2": least = 1; most = 500; break;
            default: throw new IllegalStateException(word + n.size());
        }
        return x >= least && x <= most;
    }

    private boolean takes(String word, List<Integer> n, int first) {
        switch (word) {
            case "road": told.length = n.get(0); break;
            case "speed": told.speed = n.get(0); break;
            case "gap": told.gap = n.get(0); break;
            case "start": told.start = n.get(0); break;
            case "cross": told.crossings.add(n.stream().mapToInt(i -> i).toArray()); break;
            case "column":
                if (told.cars.size() + n.get(0) > 30) {
                    return fail(3, first + 1);
                }
                for (int i = 0; i < n.get(0); i++) {
                    told.cars.add(n.get(1));
                }
                break;
            case "split":
                if (!told.splits.add(n.get(0))) {
                    return fail(3, first + 1);
                }
                break;
            case "gather": told.gathers.add(n.get(0)); break;
            default: told.broken.add(n.stream().mapToInt(i -> i).toArray()); break;
        }
        return true;
    }
}
