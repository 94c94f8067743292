/** Promise 13: apply. */
public final class ApplyTest {
    public static void main(String[] args) {
        linesAreReplaced();
        theNearestPlace();
        hunksWithoutOldLines();
        hunksComeBehindOneAnother();
        placesAreThoseBeforeAllReplacing();
        refusedHunksChangeNothing();
        textsThatWouldBeTooLong();
        wrongInputs();
        textsWithConflicts();
        applyLeavesPaperAndComparison();
        writtenPatchesFit();
        Check.end();
    }

    private static void applied(String text, String paper, int due, String then) {
        LinePatcher patcher = Check.withTexts("", text);
        Check.setPaper(patcher, paper);
        String call = "apply of " + Check.shown(paper) + " to " + text;
        Check.due(call, patcher.apply(1), due);
        Check.due(call, Check.textOf(patcher, 1), then);
    }

    private static void linesAreReplaced() {
        applied("abc", "", 0, "abc");
        applied("abc", "@1,1 1,1\n-b\n+x\n", 1, "axc");
        applied("abc", "@0,3 0,2\n a\n-b\n c\n", 1, "ac");
        applied("abc", "@0,2 0,3\n+x\n a\n+y\n-b\n", 1, "xayc");
        applied("abc", "@0,1 0,0\n-a\n@2,1 1,2\n+q\n c\n", 2, "bqc");
        applied("abc", "@0,3 0,0\n-a\n-b\n-c\n", 1, "");
    }

    private static void theNearestPlace() {
        applied("abaca", "@1,1 0,1\n-a\n+x\n", 1, "xbaca");
        applied("abaca", "@2,1 0,1\n-a\n+x\n", 1, "abxca");
        applied("abaca", "@3,1 0,1\n-a\n+x\n", 1, "abxca");
        applied("abaca", "@4,1 0,1\n-a\n+x\n", 1, "abacx");
        applied("abaca", "@99,1 0,1\n-a\n+x\n", 1, "abacx");
        applied("bbbba", "@0,1 0,1\n-a\n+x\n", 1, "bbbbx");
        applied("acabab", "@1,2 0,1\n-a\n-b\n+x\n", 1, "acxab");
        applied("aaa", "@5,2 0,1\n-a\n-a\n+x\n", 1, "ax");
        applied("ababab", "@5,3 0,0\n-b\n-a\n-b\n", 1, "aba");
    }

    private static void hunksWithoutOldLines() {
        applied("", "@0,0 0,1\n+x\n", 1, "x");
        applied("", "@7,0 0,1\n+x\n", 1, "x");
        applied("ab", "@0,0 0,1\n+x\n", 1, "xab");
        applied("ab", "@1,0 0,1\n+x\n", 1, "axb");
        applied("ab", "@2,0 0,1\n+x\n", 1, "abx");
        applied("ab", "@50,0 0,1\n+x\n", 1, "abx");
        applied("ab", "@1,0 0,1\n+x\n@0,0 0,1\n+y\n", 2, "axyb");
    }

    private static void hunksComeBehindOneAnother() {
        applied("aba", "@0,1 0,1\n-a\n+x\n@0,1 0,1\n-a\n+y\n", 2, "xby");
        applied("aa", "@0,1 0,1\n-a\n+x\n@0,1 0,1\n-a\n+y\n", 2, "xy");
        applied("ba", "@0,1 0,1\n a\n@0,1 0,1\n-b\n+y\n", -4, "ba");
        applied("aab", "@0,2 0,2\n a\n a\n@0,2 0,0\n-a\n-b\n", -4, "aab");
        applied("ab", "@2,0 0,1\n+x\n@1,1 0,0\n-b\n", -4, "ab");
        applied("abcb", "@2,1 0,0\n-c\n@0,1 0,0\n-b\n", 2, "ab");
    }

    private static void placesAreThoseBeforeAllReplacing() {
        applied("abcdb", "@0,0 0,3\n+x\n+y\n+z\n@2,1 0,0\n-b\n", 2, "xyzacdb");
        applied("abc", "@0,1 0,2\n-a\n+b\n+b\n@0,1 0,0\n-b\n", 2, "bbc");
        applied("acbab", "@0,2 0,0\n-a\n-c\n@3,1 0,1\n-b\n+y\n", 2, "yab");
    }

    private static void refusedHunksChangeNothing() {
        applied("abc", "@0,1 0,0\n-d\n", -3, "abc");
        applied("abc", "@0,1 0,0\n-a\n@0,1 0,0\n-b\n@0,1 0,0\n-d\n", -5, "abc");
        applied("abc", "@0,4 0,0\n-a\n-b\n-c\n-d\n", -3, "abc");
        applied("", "@0,1 0,1\n a\n", -3, "");
        applied("a", "@0,99 0,99\n" + " a\n".repeat(99), -3, "a");
        applied("a", "@0,1 0,1\n a\n" + "@0,0 0,1\n+b\n".repeat(23) + "@0,1 0,0\n-a\n", -27, "a");
    }

    private static void textsThatWouldBeTooLong() {
        String full = "abcdefghijklmnopqrstuvwx";
        applied(full, "@0,0 0,1\n+z\n", -3, full);
        applied(full, "@0,1 0,1\n-a\n+z\n", 1, "z" + full.substring(1));
        applied(full, "@0,1 0,0\n-a\n@3,0 0,1\n+z\n", 2, "bczdefghijklmnopqrstuvwx");
        applied(full, "@0,0 0,1\n+z\n@3,1 0,0\n-d\n", -3, full);
        applied(full, "@0,1 0,0\n-a\n@3,0 0,2\n+z\n+z\n@9,1 0,0\n-j\n", -4, full);
        applied("", "@0,0 0,25\n" + "+z\n".repeat(25), -3, "");
        applied("", "@0,0 0,24\n" + "+z\n".repeat(24), 1, "z".repeat(24));
        applied("a", "@0,1 0,99\n-a\n" + "+z\n".repeat(99), -3, "a");
    }

    private static void wrongInputs() {
        LinePatcher patcher = Check.withTexts("a");
        int[] noTexts = {-1, 4, Integer.MIN_VALUE, Integer.MAX_VALUE};
        for (int text : noTexts) {
            Check.due("apply to " + text, patcher.apply(text), LinePatcher.BAD);
        }
        applied("abc", "x", LinePatcher.BAD, "abc");
        applied("abc", "@0,1 0,0\n-a\n@", LinePatcher.BAD, "abc");
        applied("abc", "@0,1 0,0\n-d\n@", LinePatcher.BAD, "abc");
        applied("abc", "@0,0 0,0\n", LinePatcher.BAD, "abc");
    }

    private static void textsWithConflicts() {
        LinePatcher patcher = Check.withTexts("a", "b", "c");
        patcher.merge();
        Check.setPaper(patcher, "@0,1 0,1\n-c\n+d\n");
        Check.due("apply to 3", patcher.apply(3), 1);
        Check.due("text 3", Check.textOf(patcher, 3), "<b=d>");
        Check.due("compare", patcher.compare(3, 0, 0), LinePatcher.NONE);
    }

    private static void applyLeavesPaperAndComparison() {
        LinePatcher patcher = Check.withTexts("ab", "b");
        patcher.compare(0, 1, 0);
        patcher.write(1);
        String paper = Check.paperOf(patcher);
        Check.due("apply", patcher.apply(0), 1);
        Check.due("the paper", Check.paperOf(patcher), paper);
        Check.due("matches", Check.matchesOf(patcher, 2), ". 0");
        Check.due("text 0", Check.textOf(patcher, 0), "b");
        Check.due("text 1", Check.textOf(patcher, 1), "b");
        Check.due("apply again", patcher.apply(0), -3);
    }

    /** Texts of at most 12 lines: no hunk of theirs makes a text of more than 24 on the way. */
    private static void writtenPatchesFit() {
        String[] texts = {"", "a", "abcabcabc", "cabacbacb", "bbbbbbbb", "abcdefghijkl",
            "lkjihgfedcba", "acegikacegik"};
        for (String x : texts) {
            for (String y : texts) {
                for (int kind = 0; kind < 8; kind++) {
                    LinePatcher patcher = Check.withTexts(x, y);
                    patcher.compare(0, 1, kind % 2);
                    int hunks = patcher.write(kind / 2);
                    Check.due("apply " + x + " " + y, patcher.apply(0), hunks);
                    Check.due("text 0", Check.textOf(patcher, 0), y);
                }
            }
        }
    }
}
