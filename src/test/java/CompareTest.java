/** Promises 6 and 7: compare, match. Each test quotes what it holds. */
public final class CompareTest {
    private static final int[] NO_WAYS = {-1, 2, 3, Integer.MIN_VALUE, Integer.MAX_VALUE};

    public static void main(String[] args) {
        compareCountsLinesTakenOutAndPutIn();
        compareOfATextWithItself();
        compareOfEachTextWithEach();
        compareOfNoXIsBad();
        compareOfNoYIsBad();
        compareByNoWayIsBad();
        compareOfLinesThatAreNoLettersIsNone();
        compareAnswersBadBeforeNone();
        compareOfAMergedTextOfLetters();
        compareThatIsRefusedLeavesTheLatest();
        compareLeavesTextsAndPaper();
        matchTellsTheLatestComparison();
        matchWithNoneIsNone();
        matchOfNoLineIsNone();
        matchBeforeAComparisonIsNone();
        matchTellsTextsAsTheyWere();
        Check.end();
    }

    // "how many lines are taken out and put in"
    private static void compareCountsLinesTakenOutAndPutIn() {
        for (int way = 0; way < 2; way++) {
            Check.compared("", "", way, 0, "");
            Check.compared("abc", "abc", way, 0, "0 1 2");
            Check.compared("abc", "ac", way, 1, "0 . 1");
            Check.compared("ac", "abc", way, 1, "0 2");
            Check.compared("abc", "axc", way, 2, "0 . 2");
            LinePatcher patcher = Check.withTexts(Check.FULL_TEXT, "z".repeat(24));
            Check.due("nothing is equal", patcher.compare(0, 1, way), 48);
        }
    }

    private static void compareOfATextWithItself() {
        for (int way = 0; way < 2; way++) {
            LinePatcher patcher = Check.withTexts("abab");
            Check.due("compare with itself", patcher.compare(0, 0, way), 0);
            Check.due("match", Check.matchesOf(patcher, 4), "0 1 2 3");
        }
    }

    private static void compareOfEachTextWithEach() {
        LinePatcher patcher = Check.withTexts("a", "bc", "def", "ghij");
        for (int x = 0; x < 4; x++) {
            for (int y = 0; y < 4; y++) {
                int due = x == y ? 0 : x + 1 + y + 1;
                Check.due("compare by SHORT", patcher.compare(x, y, 0), due);
                Check.due("compare by STANDING OUT", patcher.compare(x, y, 1), due);
            }
        }
    }

    // "BAD: x [...] is not 0 .. 3"
    private static void compareOfNoXIsBad() {
        LinePatcher patcher = Check.withTexts("a", "b");
        for (int text : Check.NO_TEXTS) {
            Check.due("compare x " + text, patcher.compare(text, 0, 0), LinePatcher.BAD);
        }
        Check.due("nothing was compared", patcher.write(0), LinePatcher.NONE);
    }

    // "BAD: [...] y is not 0 .. 3"
    private static void compareOfNoYIsBad() {
        LinePatcher patcher = Check.withTexts("a", "b");
        for (int text : Check.NO_TEXTS) {
            Check.due("compare y " + text, patcher.compare(0, text, 0), LinePatcher.BAD);
        }
        Check.due("nothing was compared", patcher.write(0), LinePatcher.NONE);
    }

    // "or way not 0 or 1"
    private static void compareByNoWayIsBad() {
        LinePatcher patcher = Check.withTexts("a", "b");
        for (int way : NO_WAYS) {
            Check.due("compare way " + way, patcher.compare(0, 1, way), LinePatcher.BAD);
        }
        Check.due("nothing was compared", patcher.write(0), LinePatcher.NONE);
    }

    private static LinePatcher withAConflictInTextThree() {
        LinePatcher patcher = Check.withTexts("a", "b", "c");
        Check.due("merge", patcher.merge(), 1);
        return patcher;
    }

    // "NONE: one of the texts has a line that is no letter"
    private static void compareOfLinesThatAreNoLettersIsNone() {
        LinePatcher patcher = withAConflictInTextThree();
        for (int way = 0; way < 2; way++) {
            Check.due("compare x", patcher.compare(3, 0, way), LinePatcher.NONE);
            Check.due("compare y", patcher.compare(0, 3, way), LinePatcher.NONE);
            Check.due("compare both", patcher.compare(3, 3, way), LinePatcher.NONE);
        }
        Check.due("nothing was compared", patcher.write(0), LinePatcher.NONE);
        Check.setPaper(patcher, "@1,1 0,0\n-b\n@3,1 0,0\n-c\n");
        Check.due("apply", patcher.apply(3), 2);
        Check.due("no letter at all", patcher.compare(3, 0, 0), LinePatcher.NONE);
    }

    private static void compareAnswersBadBeforeNone() {
        LinePatcher patcher = withAConflictInTextThree();
        Check.due("a wrong y", patcher.compare(3, 4, 0), LinePatcher.BAD);
        Check.due("a wrong x", patcher.compare(-1, 3, 0), LinePatcher.BAD);
        Check.due("a wrong way", patcher.compare(3, 3, 2), LinePatcher.BAD);
    }

    private static void compareOfAMergedTextOfLetters() {
        LinePatcher patcher = withAConflictInTextThree();
        Check.setText(patcher, 2, "a");
        Check.due("merge without a conflict", patcher.merge(), 0);
        Check.due("compare", patcher.compare(3, 1, 1), 0);
        Check.setText(patcher, 2, "c");
        Check.due("merge with a conflict", patcher.merge(), 1);
        Check.setText(patcher, 3, "a");
        Check.due("compare after clear", patcher.compare(3, 0, 0), 0);
    }

    private static void compareThatIsRefusedLeavesTheLatest() {
        LinePatcher patcher = Check.withTexts("ab", "xb", "c");
        patcher.compare(0, 1, 0);
        patcher.compare(0, 4, 0);
        patcher.compare(4, 0, 0);
        patcher.compare(2, 1, 2);
        Check.due("after BAD", Check.matchesOf(patcher, 2), ". 1");
        patcher.merge();
        Check.due("compare", patcher.compare(3, 0, 0), LinePatcher.NONE);
        Check.due("after NONE", Check.matchesOf(patcher, 2), ". 1");
        Check.due("write", patcher.write(0), 1);
        Check.due("the paper", Check.paperOf(patcher), "@0,1 0,1\n-a\n+x\n");
    }

    private static void compareLeavesTextsAndPaper() {
        LinePatcher patcher = Check.withTexts("ab", "xb");
        Check.setPaper(patcher, "paper");
        patcher.compare(0, 1, 0);
        patcher.compare(1, 0, 1);
        Check.due("text 0", Check.textOf(patcher, 0), "ab");
        Check.due("text 1", Check.textOf(patcher, 1), "xb");
        Check.due("the paper", Check.paperOf(patcher), "paper");
    }

    // "The number of the line in y that line i of x was matched with in the latest comparison"
    private static void matchTellsTheLatestComparison() {
        LinePatcher patcher = Check.withTexts("abcd", "bcda");
        patcher.compare(0, 1, 0);
        Check.due("the first", Check.matchesOf(patcher, 4), ". 0 1 2");
        patcher.compare(1, 0, 0);
        Check.due("the second", Check.matchesOf(patcher, 4), "1 2 3 .");
        patcher.compare(0, 0, 1);
        Check.due("the third", Check.matchesOf(patcher, 4), "0 1 2 3");
        patcher.compare(0, 2, 1);
        Check.due("the fourth", Check.matchesOf(patcher, 4), ". . . .");
    }

    // "NONE: with none"
    private static void matchWithNoneIsNone() {
        LinePatcher patcher = Check.withTexts("abc", "xbz");
        patcher.compare(0, 1, 0);
        Check.due("match 0", patcher.match(0), LinePatcher.NONE);
        Check.due("match 1", patcher.match(1), 1);
        Check.due("match 2", patcher.match(2), LinePatcher.NONE);
    }

    // "or there is no such line": here x had more lines in the comparison before.
    private static void matchOfNoLineIsNone() {
        LinePatcher patcher = Check.withTexts("abcd", "abcd");
        patcher.compare(0, 1, 0);
        Check.setText(patcher, 0, "ab");
        patcher.compare(0, 1, 0);
        Check.due("match 1", patcher.match(1), 1);
        for (int i : new int[] {2, 3, 23, 24, 25, -1, Integer.MIN_VALUE, Integer.MAX_VALUE}) {
            Check.due("match " + i, patcher.match(i), LinePatcher.NONE);
        }
        LinePatcher full = Check.withTexts(Check.FULL_TEXT);
        full.compare(0, 0, 0);
        Check.due("match 23", full.match(23), 23);
        Check.due("match 24", full.match(24), LinePatcher.NONE);
    }

    // "or nothing was compared"
    private static void matchBeforeAComparisonIsNone() {
        LinePatcher patcher = Check.withTexts("ab", "ab", "ab");
        Check.due("merge", patcher.merge(), 0);
        for (int i = -1; i <= 24; i++) {
            Check.due("match " + i, patcher.match(i), LinePatcher.NONE);
        }
    }

    private static void matchTellsTextsAsTheyWere() {
        LinePatcher patcher = Check.withTexts("abc", "ac");
        patcher.compare(0, 1, 0);
        patcher.clear(0);
        Check.setText(patcher, 1, "xyz");
        Check.setPaper(patcher, "@0,0 0,1\n+q\n");
        patcher.apply(0);
        Check.due("matches", Check.matchesOf(patcher, 4), "0 . 1 .");
    }
}
