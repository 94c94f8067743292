import java.util.ArrayList;
import java.util.Arrays;
import java.util.HashMap;
import java.util.List;
import java.util.Map;
import java.util.TreeMap;

/**
 * The document again, told another way than in LinePatcher: texts are Strings, ranges are pieces of
 * them, comparisons are maps, and what recurs in the document recurs here.
 */
final class Model {
    private static final int BAD = -1;
    private static final int FULL = -2;
    private static final int NONE = -3;

    private final String[] texts = {"", "", "", ""};
    private String x = null;
    private String y = null;
    private Map<Integer, Integer> matches = null;
    private String paper = "";

    int add(int text, long lines, int n) {
        if (text < 0 || text > 3 || n < 1 || n > 8 || !bytes(lines, n).matches("[a-z]*")) {
            return BAD;
        }
        String longer = texts[text] + bytes(lines, n);
        if (longer.length() > 24) {
            return FULL;
        }
        texts[text] = longer;
        return longer.length();
    }

    int clear(int text) {
        int had = size(text);
        if (had >= 0) {
            texts[text] = "";
        }
        return had;
    }

    int size(int text) {
        return text < 0 || text > 3 ? BAD : texts[text].length();
    }

    int line(int text, int i) {
        return text < 0 || text > 3 ? BAD : at(texts[text], i);
    }

    int compare(int newX, int newY, int way) {
        if (newX < 0 || newX > 3 || newY < 0 || newY > 3 || way < 0 || way > 1) {
            return BAD;
        }
        if (!(texts[newX] + texts[newY]).matches("[a-z]*")) {
            return NONE;
        }
        x = texts[newX];
        y = texts[newY];
        matches = way == 0 ? byShort(x, y) : byStandingOut(x, y);
        return x.length() + y.length() - 2 * matches.size();
    }

    int match(int i) {
        return matches == null ? NONE : matches.getOrDefault(i, NONE);
    }

    int write(int context) {
        if (context < 0 || context > 3) {
            return BAD;
        }
        if (matches == null) {
            return NONE;
        }
        List<String> script = script();
        boolean[] isShown = shown(script, context);
        StringBuilder all = new StringBuilder();
        int hunks = 0;
        int i = 0;
        int j = 0;
        for (int k = 0; k < script.size(); k++) {
            if (isShown[k] && (k == 0 || !isShown[k - 1])) {
                int end = k;
                while (end < script.size() && isShown[end]) {
                    end++;
                }
                List<String> lines = script.subList(k, end);
                long out = lines.stream().filter(s -> s.charAt(0) != '+').count();
                long in = lines.stream().filter(s -> s.charAt(0) != '-').count();
                all.append("@" + i + "," + out + " " + j + "," + in + "\n");
                lines.forEach(s -> all.append(s).append("\n"));
                hunks++;
            }
            i += script.get(k).charAt(0) == '+' ? 0 : 1;
            j += script.get(k).charAt(0) == '-' ? 0 : 1;
        }
        paper = all.toString();
        return hunks;
    }

    int type(long characters, int n) {
        if (n < 1 || n > 8) {
            return BAD;
        }
        if (paper.length() + n > 900) {
            return FULL;
        }
        paper += bytes(characters, n);
        return paper.length();
    }

    int wipe() {
        int had = paper.length();
        paper = "";
        return had;
    }

    int character(int i) {
        return at(paper, i);
    }

    /** Steps through the paper, a character at a time, knowing what has been begun. */
    int read() {
        String head = "";
        int out = 0;
        int in = 0;
        String lineSoFar = "";
        for (int p = 0; p <= paper.length(); p++) {
            boolean isBetween = head.isEmpty() && out == 0 && in == 0 && lineSoFar.isEmpty();
            if (p == paper.length()) {
                return isBetween ? -1 : p;
            }
            char c = paper.charAt(p);
            if (isBetween || !head.isEmpty()) {
                if (!canBeHead(head + c)) {
                    return p;
                }
                head += c;
                if (c == '\n') {
                    String[] numbers = head.substring(1, head.length() - 1).split("[, ]");
                    out = Integer.parseInt(numbers[1]);
                    in = Integer.parseInt(numbers[3]);
                    head = "";
                }
            } else if (lineSoFar.isEmpty()) {
                String canStand = out == 0 ? "+" : in == 0 ? "-" : " -+";
                if (canStand.indexOf(c) < 0) {
                    return p;
                }
                out -= c == '+' ? 0 : 1;
                in -= c == '-' ? 0 : 1;
                lineSoFar = "" + c;
            } else if (lineSoFar.length() == 1) {
                if (c < 'a' || c > 'z') {
                    return p;
                }
                lineSoFar += c;
            } else {
                if (c != '\n') {
                    return p;
                }
                lineSoFar = "";
            }
        }
        throw new IllegalStateException();
    }

    private static boolean canBeHead(String start) {
        if (start.matches("(?s)@[0-9]+,0 [0-9]+,0.")) {
            return false;
        }
        String number = "(0|[1-9][0-9]?)";
        String[] steps = {"@", number, ",", number, " ", number, ",", number, "\n"};
        StringBuilder pattern = new StringBuilder();
        for (String step : steps) {
            pattern.append(step);
            if (start.matches(pattern.toString())) {
                return true;
            }
        }
        return false;
    }

    int apply(int text) {
        if (text < 0 || text > 3 || read() != -1) {
            return BAD;
        }
        String old = texts[text];
        String tail = old;
        String done = "";
        int number = 0;
        for (String hunk : paper.isEmpty() ? new String[0] : paper.substring(1).split("@")) {
            String[] lines = hunk.split("\n");
            int named = Integer.parseInt(lines[0].substring(0, lines[0].indexOf(',')));
            StringBuilder outs = new StringBuilder();
            StringBuilder ins = new StringBuilder();
            for (String one : Arrays.asList(lines).subList(1, lines.length)) {
                outs.append(one.charAt(0) == '+' ? "" : one.substring(1));
                ins.append(one.charAt(0) == '-' ? "" : one.substring(1));
            }
            int tailBegin = old.length() - tail.length();
            int place = -1;
            for (int away = 0; away < 200 && place < 0; away++) {
                for (int p : new int[] {named - away, named + away}) {
                    if (place < 0 && p >= tailBegin && p <= old.length()
                            && old.startsWith(outs.toString(), p)) {
                        place = p;
                    }
                }
            }
            if (place < 0) {
                return NONE - number;
            }
            done += old.substring(tailBegin, place) + ins;
            tail = old.substring(place + outs.length());
            if ((done + tail).length() > 24) {
                return NONE - number;
            }
            number++;
        }
        texts[text] = done + tail;
        return number;
    }

    int merge() {
        if (!(texts[0] + texts[1] + texts[2]).matches("[a-z]*")) {
            return NONE;
        }
        Map<Integer, Integer> one = byShort(texts[0], texts[1]);
        Map<Integer, Integer> two = byShort(texts[0], texts[2]);
        List<Integer> firm = new ArrayList<>(one.keySet());
        firm.retainAll(two.keySet());
        firm.add(texts[0].length());
        one.put(texts[0].length(), texts[1].length());
        two.put(texts[0].length(), texts[2].length());
        String merged = "";
        int conflicts = 0;
        int from = 0;
        int fromOne = 0;
        int fromTwo = 0;
        for (int i : firm) {
            String part = texts[0].substring(from, i);
            String partOne = texts[1].substring(fromOne, one.get(i));
            String partTwo = texts[2].substring(fromTwo, two.get(i));
            if (partOne.equals(part)) {
                merged += partTwo;
            } else if (partTwo.equals(part) || partTwo.equals(partOne)) {
                merged += partOne;
            } else {
                merged += "<" + partOne + "=" + partTwo + ">";
                conflicts++;
            }
            merged += i < texts[0].length() ? texts[0].substring(i, i + 1) : "";
            from = i + 1;
            fromOne = one.get(i) + 1;
            fromTwo = two.get(i) + 1;
        }
        if (merged.length() > 24) {
            return FULL;
        }
        texts[3] = merged;
        return conflicts;
    }

    private static String bytes(long all, int n) {
        StringBuilder bytes = new StringBuilder();
        for (int k = 8 - n; k < 8; k++) {
            bytes.append((char) (all << 8 * k >>> 56));
        }
        return bytes.toString();
    }

    private static int at(String row, int i) {
        return i < 0 || i >= row.length() ? NONE : row.charAt(i);
    }

    private static int most(String a, String b, Map<String, Integer> known) {
        if (a.isEmpty() || b.isEmpty()) {
            return 0;
        }
        String key = a + "|" + b;
        Integer before = known.get(key);
        if (before != null) {
            return before;
        }
        int most = Math.max(most(a.substring(1), b, known), most(a, b.substring(1), known));
        if (a.charAt(0) == b.charAt(0)) {
            most = Math.max(most, 1 + most(a.substring(1), b.substring(1), known));
        }
        known.put(key, most);
        return most;
    }

    private static Map<Integer, Integer> byShort(String a, String b) {
        Map<String, Integer> known = new HashMap<>();
        Map<Integer, Integer> found = new TreeMap<>();
        int i = 0;
        int j = 0;
        while (i < a.length() && j < b.length()) {
            if (a.charAt(i) == b.charAt(j)) {
                found.put(i++, j++);
            } else if (most(a.substring(i + 1), b.substring(j), known)
                    >= most(a.substring(i), b.substring(j + 1), known)) {
                i++;
            } else {
                j++;
            }
        }
        return found;
    }

    private static Map<Integer, Integer> byStandingOut(String a, String b) {
        Map<Integer, Integer> found = new TreeMap<>();
        if (a.isEmpty() || b.isEmpty()) {
            return found;
        }
        int lastA = a.length() - 1;
        int lastB = b.length() - 1;
        if (a.charAt(0) == b.charAt(0)) {
            found.put(0, 0);
            put(found, 1, 1, byStandingOut(a.substring(1), b.substring(1)));
            return found;
        }
        if (a.charAt(lastA) == b.charAt(lastB)) {
            // The beginnings differ here, and go on differing however many ends are taken off.
            found.put(lastA, lastB);
            put(found, 0, 0, byStandingOut(a.substring(0, lastA), b.substring(0, lastB)));
            return found;
        }
        List<int[]> pairs = new ArrayList<>();
        for (int i = 0; i < a.length(); i++) {
            char c = a.charAt(i);
            boolean isOnceInA = a.indexOf(c) == a.lastIndexOf(c);
            boolean isOnceInB = b.indexOf(c) >= 0 && b.indexOf(c) == b.lastIndexOf(c);
            if (isOnceInA && isOnceInB) {
                pairs.add(new int[] {i, b.indexOf(c)});
            }
        }
        if (pairs.isEmpty()) {
            return byShort(a, b);
        }
        int[] anchor = null;
        int rank = 0;
        for (int[] pair : pairs) {
            if (rank(pairs, pair) >= rank) {
                anchor = pair;
                rank = rank(pairs, pair);
            }
        }
        List<int[]> anchors = new ArrayList<>();
        while (anchor != null) {
            anchors.add(0, anchor);
            int[] before = null;
            for (int[] pair : pairs) {
                if (pair[0] < anchor[0] && rank(pairs, pair) == rank(pairs, anchor) - 1) {
                    before = pair;
                }
            }
            anchor = before;
        }
        anchors.add(new int[] {a.length(), b.length()});
        int i = 0;
        int j = 0;
        for (int[] next : anchors) {
            put(found, i, j, byStandingOut(a.substring(i, next[0]), b.substring(j, next[1])));
            if (next[0] < a.length()) {
                found.put(next[0], next[1]);
            }
            i = Math.min(next[0] + 1, a.length());
            j = Math.min(next[1] + 1, b.length());
        }
        return found;
    }

    private static int rank(List<int[]> pairs, int[] last) {
        int[] longest = new int[pairs.size()];
        for (int k = 0; k < pairs.size(); k++) {
            longest[k] = 1;
            for (int m = 0; m < k; m++) {
                if (pairs.get(m)[1] < pairs.get(k)[1]) {
                    longest[k] = Math.max(longest[k], longest[m] + 1);
                }
            }
            if (pairs.get(k) == last) {
                return longest[k];
            }
        }
        throw new IllegalArgumentException();
    }

    private static void put(Map<Integer, Integer> all, int i, int j, Map<Integer, Integer> part) {
        part.forEach((a, b) -> all.put(a + i, b + j));
    }

    private List<String> script() {
        List<String> script = new ArrayList<>();
        int j = 0;
        for (int i = 0; i < x.length(); i++) {
            if (!matches.containsKey(i)) {
                script.add("-" + x.charAt(i));
            } else {
                for (; j < matches.get(i); j++) {
                    script.add("+" + y.charAt(j));
                }
                script.add(" " + y.charAt(j++));
            }
        }
        for (; j < y.length(); j++) {
            script.add("+" + y.charAt(j));
        }
        return script;
    }

    /** A line is shown if it is changed or lies at most so many lines away from a changed one. */
    private static boolean[] shown(List<String> script, int context) {
        boolean[] isShown = new boolean[script.size()];
        for (int k = 0; k < script.size(); k++) {
            if (script.get(k).charAt(0) != ' ') {
                for (int near = k - context; near <= k + context; near++) {
                    if (near >= 0 && near < script.size()) {
                        isShown[near] = true;
                    }
                }
            }
        }
        return isShown;
    }
}
