/** What the tests share: it counts wrong answers, and speaks of texts and papers as Strings. */
final class Check {
    static final String FULL_TEXT = "abcdefghijklmnopqrstuvwx";
    static final int[] NO_TEXTS = {-1, 4, 5, -4, Integer.MIN_VALUE, Integer.MAX_VALUE};
    /** What no call takes as a number of bytes. */
    static final int[] NO_COUNTS = {0, 9, -1, 10, Integer.MIN_VALUE, Integer.MAX_VALUE};

    private static int wrong = 0;

    private Check() {}

    static void due(String call, long got, long want) {
        if (got != want) {
            wrong++;
            System.out.println(call + " answered " + got + ", due is " + want);
        }
    }

    static void due(String call, String got, String want) {
        if (!got.equals(want)) {
            wrong++;
            System.out.println(call + " answered " + shown(got) + ", due is " + shown(want));
        }
    }

    static boolean allRight() {
        return wrong == 0;
    }

    static void end() {
        if (wrong != 0) {
            System.out.println(wrong + " answers are not as due");
            System.exit(1);
        }
    }

    static LinePatcher withTexts(String... texts) {
        LinePatcher patcher = new LinePatcher();
        for (int text = 0; text < texts.length; text++) {
            addLines(patcher, text, texts[text]);
        }
        return patcher;
    }

    /** A new object, and one that did other work before and was emptied then. */
    static LinePatcher[] newAndUsed() {
        LinePatcher used = withTexts("cxaxbxcxdxexfxgxhxixjxkx", "dyaybycydyeyfygyhyiyjyky");
        used.compare(0, 1, 1);
        used.write(0);
        used.apply(0);
        used.apply(0);
        used.type('@', 1);
        used.read();
        setText(used, 0, FULL_TEXT);
        used.compare(0, 0, 0);
        setText(used, 2, "zabcdefghijklmnopqrstuvw");
        used.merge();
        clearAll(used);
        return new LinePatcher[] {new LinePatcher(), used};
    }

    private static void clearAll(LinePatcher patcher) {
        for (int text = 0; text < 4; text++) {
            patcher.clear(text);
        }
        patcher.wipe();
    }

    static void setTexts(LinePatcher patcher, String... texts) {
        for (int text = 0; text < texts.length; text++) {
            setText(patcher, text, texts[text]);
        }
    }

    static void setText(LinePatcher patcher, int text, String lines) {
        patcher.clear(text);
        addLines(patcher, text, lines);
    }

    static void addLines(LinePatcher patcher, int text, String lines) {
        for (int i = 0; i < lines.length(); i += 8) {
            String some = lines.substring(i, Math.min(i + 8, lines.length()));
            int n = some.length();
            due("add of " + some, patcher.add(text, packed(some), n), i + n);
        }
    }

    static void setPaper(LinePatcher patcher, String characters) {
        patcher.wipe();
        for (int i = 0; i < characters.length(); i += 8) {
            String some = characters.substring(i, Math.min(i + 8, characters.length()));
            int n = some.length();
            due("type of " + shown(some), patcher.type(packed(some), n), i + n);
        }
    }

    static long packed(String bytes) {
        long all = 0;
        for (int i = 0; i < bytes.length(); i++) {
            all = all << 8 | bytes.charAt(i);
        }
        return all;
    }

    static String textOf(LinePatcher patcher, int text) {
        StringBuilder lines = new StringBuilder();
        for (int i = 0; i < patcher.size(text); i++) {
            lines.append((char) patcher.line(text, i));
        }
        due("line behind the last", patcher.line(text, patcher.size(text)), LinePatcher.NONE);
        return lines.toString();
    }

    static String paperOf(LinePatcher patcher) {
        StringBuilder characters = new StringBuilder();
        int next = patcher.character(0);
        while (next != LinePatcher.NONE && characters.length() < 900) {
            characters.append((char) next);
            next = patcher.character(characters.length());
        }
        return characters.toString();
    }

    /** Compares text 0 with text 1, and looks at all matches. */
    static void compared(String x, String y, int way, int changed, String matches) {
        for (LinePatcher patcher : newAndUsed()) {
            setTexts(patcher, x, y);
            String call = "compare of " + x + " with " + y + " by way " + way;
            due(call, patcher.compare(0, 1, way), changed);
            due(call + ": match", matchesOf(patcher, x.length()), matches);
            due(call + ": match behind", patcher.match(x.length()), LinePatcher.NONE);
        }
    }

    /** The answers of match for lines 0 .. count - 1: '.' for NONE. */
    static String matchesOf(LinePatcher patcher, int count) {
        StringBuilder matches = new StringBuilder();
        for (int i = 0; i < count; i++) {
            int j = patcher.match(i);
            matches.append(i == 0 ? "" : " ");
            matches.append(j == LinePatcher.NONE ? "." : Integer.toString(j));
        }
        return matches.toString();
    }

    static String shown(String text) {
        return "'" + text.replace("\n", "\\n") + "'";
    }
}
