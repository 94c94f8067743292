/** Promises 6 and 7: compare, match. */
public final class CompareTest {
    public static void main(String[] args) {
        shortTakesOutFirstWhereBothAreAsGood();
        shortMatchesTheMostLines();
        standingOutMatchesBothEnds();
        standingOutGoesByLinesThatStandOnce();
        standingOutTakesTheLastPairs();
        standingOutGoesOnRoundTheAnchors();
        standingOutWithoutPairsIsShort();
        fullTexts();
        emptyTextsAndTheSameText();
        wrongInputs();
        linesThatAreNoLetters();
        matchBesideTheText();
        aRefusedComparisonLeavesTheLatest();
        Check.end();
    }

    private static void compared(String x, String y, int way, int changed, String matches) {
        LinePatcher patcher = Check.withTexts(x, y);
        String call = "compare " + x + " " + y + " " + way;
        Check.due(call, patcher.compare(0, 1, way), changed);
        Check.due(call + ": match", Check.matchesOf(patcher, x.length()), matches);
    }

    private static void shortTakesOutFirstWhereBothAreAsGood() {
        compared("ab", "ba", 0, 2, ". 0");
        compared("abcd", "cdab", 0, 4, ". . 0 1");
        compared("xa", "yaa", 0, 3, ". 1");
    }

    private static void shortMatchesTheMostLines() {
        compared("abc", "cab", 0, 2, "1 2 .");
        compared("abcabba", "cbabac", 0, 5, ". . 0 . 1 3 4");
        compared("caaazd", "ezaaaf", 0, 6, ". 2 3 4 . .");
    }

    private static void standingOutMatchesBothEnds() {
        compared("aab", "ab", 1, 1, "0 . 1");
        compared("xa", "yaa", 1, 3, ". 2");
        compared("aa", "aaa", 1, 1, "0 1");
        compared("abxab", "abyyab", 1, 3, "0 1 . 4 5");
    }

    private static void standingOutGoesByLinesThatStandOnce() {
        compared("caaazd", "ezaaaf", 1, 10, ". . . . 1 .");
    }

    private static void standingOutTakesTheLastPairs() {
        compared("abcd", "cdab", 1, 4, ". . 0 1");
        compared("abcx", "bacy", 1, 4, ". 0 2 .");
        compared("abcdex", "eabdcy", 1, 6, "1 2 . 3 . .");
    }

    private static void standingOutGoesOnRoundTheAnchors() {
        compared("xazk", "yaazl", 1, 5, ". 2 3 .");
        compared("caaawdzwk", "ewaaafzlw", 1, 12, ". . . . 1 . 6 8 .");
    }

    private static void standingOutWithoutPairsIsShort() {
        compared("caad", "eaaaf", 1, 5, ". 1 2 .");
        compared("abab", "baba", 1, 2, ". 0 1 2");
    }

    private static void fullTexts() {
        String all = "abcdefghijklmnopqrstuvwx";
        String turned = new StringBuilder(all).reverse().toString();
        String last = ". . . . . . . . . . . . . . . . . . . . . . . 0";
        compared(all, turned, 0, 46, last);
        compared(all, turned, 1, 46, last);
        compared(all, "abcdefghijklmnopqrstuvwz", 1, 2,
                "0 1 2 3 4 5 6 7 8 9 10 11 12 13 14 15 16 17 18 19 20 21 22 .");
    }

    private static void emptyTextsAndTheSameText() {
        for (int way = 0; way < 2; way++) {
            compared("", "", way, 0, "");
            compared("", "abc", way, 3, "");
            compared("abc", "", way, 3, ". . .");
            LinePatcher patcher = Check.withTexts("abab");
            Check.due("compare with itself", patcher.compare(0, 0, way), 0);
            Check.due("match", Check.matchesOf(patcher, 4), "0 1 2 3");
        }
    }

    private static void wrongInputs() {
        LinePatcher patcher = Check.withTexts("a", "b");
        int[] noTexts = {-1, 4, Integer.MIN_VALUE, Integer.MAX_VALUE};
        for (int text : noTexts) {
            Check.due("compare x " + text, patcher.compare(text, 0, 0), LinePatcher.BAD);
            Check.due("compare y " + text, patcher.compare(0, text, 0), LinePatcher.BAD);
        }
        int[] noWays = {-1, 2, Integer.MIN_VALUE, Integer.MAX_VALUE};
        for (int way : noWays) {
            Check.due("compare way " + way, patcher.compare(0, 1, way), LinePatcher.BAD);
        }
        Check.due("nothing was compared", patcher.write(0), LinePatcher.NONE);
    }

    private static void linesThatAreNoLetters() {
        LinePatcher patcher = Check.withTexts("a", "b", "c");
        Check.due("merge", patcher.merge(), 1);
        for (int way = 0; way < 2; way++) {
            Check.due("compare x", patcher.compare(3, 0, way), LinePatcher.NONE);
            Check.due("compare y", patcher.compare(0, 3, way), LinePatcher.NONE);
            Check.due("compare both", patcher.compare(3, 3, way), LinePatcher.NONE);
        }
        Check.due("BAD is first", patcher.compare(3, 4, 0), LinePatcher.BAD);
        Check.due("BAD is first", patcher.compare(3, 3, 2), LinePatcher.BAD);
        Check.due("nothing was compared", patcher.match(0), LinePatcher.NONE);
        Check.setText(patcher, 3, "a");
        Check.due("compare after clear", patcher.compare(3, 0, 1), 0);
    }

    private static void matchBesideTheText() {
        LinePatcher patcher = Check.withTexts("abcd", "abcd");
        patcher.compare(0, 1, 0);
        Check.setText(patcher, 0, "ab");
        patcher.compare(0, 1, 0);
        int[] beside = {2, 3, 24, -1, Integer.MIN_VALUE, Integer.MAX_VALUE};
        for (int i : beside) {
            Check.due("match " + i, patcher.match(i), LinePatcher.NONE);
        }
        Check.due("match 1", patcher.match(1), 1);
    }

    private static void aRefusedComparisonLeavesTheLatest() {
        LinePatcher patcher = Check.withTexts("ab", "xb", "c");
        patcher.compare(0, 1, 0);
        patcher.compare(0, 4, 0);
        patcher.compare(2, 1, 2);
        Check.due("after BAD", Check.matchesOf(patcher, 2), ". 1");
        patcher.merge();
        patcher.compare(3, 0, 0);
        Check.due("after NONE", Check.matchesOf(patcher, 2), ". 1");
    }
}
