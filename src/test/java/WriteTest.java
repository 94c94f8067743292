/** Promise 8 and the patch that it writes. Each test quotes what it holds. */
public final class WriteTest {
    private static final int[] NO_CONTEXTS = {-1, 4, 5, Integer.MIN_VALUE, Integer.MAX_VALUE};

    public static void main(String[] args) {
        contextsOfEachSize();
        changesAtTheBeginning();
        changesAtTheEnd();
        changesOfAllLines();
        changesNearEnoughAreInOneHunk();
        changesFartherApartAreInTwoHunks();
        withoutContextEachChangeIsAHunk();
        fewerLinesAtTheBeginning();
        fewerLinesAtTheEnd();
        linesTakenOutComeBeforeLinesPutIn();
        hunksWithoutALineOfX();
        hunksWithoutALineOfY();
        numbersHaveNoLeadingZeros();
        thePatchOfStandingOut();
        theLongestPatches();
        writeReplacesThePaper();
        writeWithoutAChangeIsEmpty();
        writeTellsTextsAsTheyWere();
        writeOfNoContextIsBad();
        writeBeforeAComparisonIsNone();
        Check.end();
    }

    private static void written(String x, String y, int context, int hunks, String paper) {
        for (LinePatcher patcher : Check.newAndUsed()) {
            Check.setTexts(patcher, x, y);
            patcher.compare(0, 1, 0);
            String call = "write of " + x + " and " + y + " with " + context;
            Check.due(call, patcher.write(context), hunks);
            Check.due(call, Check.paperOf(patcher), paper);
            Check.due(call + ": read", patcher.read(), -1);
        }
    }

    // "with a CONTEXT of c lines (0 .. 3)"
    private static void contextsOfEachSize() {
        written("abcdefghi", "abcdxfghi", 0, 1, "@4,1 4,1\n-e\n+x\n");
        written("abcdefghi", "abcdxfghi", 1, 1, "@3,3 3,3\n d\n-e\n+x\n f\n");
        written("abcdefghi", "abcdxfghi", 2, 1, "@2,5 2,5\n c\n d\n-e\n+x\n f\n g\n");
        written("abcdefghi", "abcdxfghi", 3, 1, "@1,7 1,7\n b\n c\n d\n-e\n+x\n f\n g\n h\n");
    }

    // "(or the beginning [...])"
    private static void changesAtTheBeginning() {
        written("abcd", "yabcd", 0, 1, "@0,0 0,1\n+y\n");
        written("abcd", "yabcd", 2, 1, "@0,2 0,3\n+y\n a\n b\n");
        written("abcd", "bcd", 1, 1, "@0,2 0,1\n-a\n b\n");
        written("abcd", "ybcd", 3, 1, "@0,4 0,4\n-a\n+y\n b\n c\n d\n");
    }

    // "(or [...] the end)"
    private static void changesAtTheEnd() {
        written("abcd", "abcdy", 0, 1, "@4,0 4,1\n+y\n");
        written("abcd", "abcdy", 2, 1, "@2,2 2,3\n c\n d\n+y\n");
        written("abcd", "abc", 1, 1, "@2,2 2,1\n c\n-d\n");
        written("abcd", "abcy", 3, 1, "@0,4 0,4\n a\n b\n c\n-d\n+y\n");
    }

    private static void changesOfAllLines() {
        for (int context = 0; context < 4; context++) {
            written("ab", "xyz", context, 1, "@0,2 0,3\n-a\n-b\n+x\n+y\n+z\n");
            written("", "ab", context, 1, "@0,0 0,2\n+a\n+b\n");
            written("ab", "", context, 1, "@0,2 0,0\n-a\n-b\n");
        }
    }

    // "Changes between which there are at most 2 c matched lines are in one HUNK."
    private static void changesNearEnoughAreInOneHunk() {
        written("pabq", "ab", 1, 1, "@0,4 0,2\n-p\n a\n b\n-q\n");
        written("pabcdq", "abcd", 2, 1, "@0,6 0,4\n-p\n a\n b\n c\n d\n-q\n");
        written("pabcdefq", "abcdef", 3, 1, "@0,8 0,6\n-p\n a\n b\n c\n d\n e\n f\n-q\n");
        written("paq", "a", 1, 1, "@0,3 0,1\n-p\n a\n-q\n");
        written("paqbr", "ab", 1, 1, "@0,5 0,2\n-p\n a\n-q\n b\n-r\n");
        written("ab", "paqbr", 1, 1, "@0,2 0,5\n+p\n a\n+q\n b\n+r\n");
    }

    private static void changesFartherApartAreInTwoHunks() {
        written("pabcq", "abc", 1, 2, "@0,2 0,1\n-p\n a\n@3,2 2,1\n c\n-q\n");
        written("pabcdeq", "abcde", 2, 2, "@0,3 0,2\n-p\n a\n b\n@4,3 3,2\n d\n e\n-q\n");
        written("pabcdefgq", "abcdefg", 3, 2,
                "@0,4 0,3\n-p\n a\n b\n c\n@5,4 4,3\n e\n f\n g\n-q\n");
        written("pabcqdr", "abcd", 1, 2, "@0,2 0,1\n-p\n a\n@3,4 2,2\n c\n-q\n d\n-r\n");
    }

    private static void withoutContextEachChangeIsAHunk() {
        written("paq", "a", 0, 2, "@0,1 0,0\n-p\n@2,1 1,0\n-q\n");
        written("ab", "paqbr", 0, 3, "@0,0 0,1\n+p\n@1,0 2,1\n+q\n@2,0 4,1\n+r\n");
    }

    // "at most c matched lines before the first [...] (fewer at the beginning [...])"
    private static void fewerLinesAtTheBeginning() {
        written("abcdef", "axcdef", 1, 1, "@0,3 0,3\n a\n-b\n+x\n c\n");
        written("abcdef", "axcdef", 2, 1, "@0,4 0,4\n a\n-b\n+x\n c\n d\n");
        written("abcdef", "abxdef", 3, 1, "@0,6 0,6\n a\n b\n-c\n+x\n d\n e\n f\n");
    }

    // "[at most c matched lines] behind the last one (fewer at [...] the end)"
    private static void fewerLinesAtTheEnd() {
        written("abcdef", "abcdxf", 1, 1, "@3,3 3,3\n d\n-e\n+x\n f\n");
        written("abcdef", "abcdxf", 2, 1, "@2,4 2,4\n c\n d\n-e\n+x\n f\n");
        written("abcdef", "abcxef", 3, 1, "@0,6 0,6\n a\n b\n c\n-d\n+x\n e\n f\n");
    }

    // "for each change first the lines taken out [...] and then those put in"
    private static void linesTakenOutComeBeforeLinesPutIn() {
        written("mabn", "mxyn", 0, 1, "@1,2 1,2\n-a\n-b\n+x\n+y\n");
        written("ambn", "xmyn", 1, 1, "@0,4 0,4\n-a\n+x\n m\n-b\n+y\n n\n");
    }

    // "a hunk that has no line of x (or y) names the number that its first line would have"
    private static void hunksWithoutALineOfX() {
        written("", "a", 0, 1, "@0,0 0,1\n+a\n");
        written("ab", "xab", 0, 1, "@0,0 0,1\n+x\n");
        written("ab", "axb", 0, 1, "@1,0 1,1\n+x\n");
        written("ab", "abx", 0, 1, "@2,0 2,1\n+x\n");
        written(Check.FULL_TEXT, Check.FULL_TEXT.substring(1) + "z", 0, 2,
                "@0,1 0,0\n-a\n@24,0 23,1\n+z\n");
    }

    private static void hunksWithoutALineOfY() {
        written("a", "", 0, 1, "@0,1 0,0\n-a\n");
        written("xab", "ab", 0, 1, "@0,1 0,0\n-x\n");
        written("axb", "ab", 0, 1, "@1,1 1,0\n-x\n");
        written("abx", "ab", 0, 1, "@2,1 2,0\n-x\n");
        written(Check.FULL_TEXT.substring(1) + "z", Check.FULL_TEXT, 0, 2,
                "@0,0 0,1\n+a\n@23,1 24,0\n-z\n");
    }

    // "Numbers are written in digits without leading zeros"
    private static void numbersHaveNoLeadingZeros() {
        written("abcdefghi", "abcdefghij", 0, 1, "@9,0 9,1\n+j\n");
        written("abcdefghij", "abcdefghijk", 0, 1, "@10,0 10,1\n+k\n");
        written("aaaaaaaaa", "", 0, 1, "@0,9 0,0\n" + "-a\n".repeat(9));
        written("aaaaaaaaaa", "", 0, 1, "@0,10 0,0\n" + "-a\n".repeat(10));
        written("", "a".repeat(20), 0, 1, "@0,0 0,20\n" + "+a\n".repeat(20));
        written("abcdefghijklmnopqrstuvwx", "abcdefghijklmnopqrstvwx", 2, 1,
                "@18,5 18,4\n s\n t\n-u\n v\n w\n");
    }

    private static void thePatchOfStandingOut() {
        LinePatcher patcher = Check.withTexts("caaazd", "ezaaaf");
        patcher.compare(0, 1, 1);
        Check.due("write", patcher.write(0), 2);
        Check.due("the paper", Check.paperOf(patcher),
                "@0,4 0,1\n-c\n-a\n-a\n-a\n+e\n@5,1 2,4\n-d\n+a\n+a\n+a\n+f\n");
    }

    // "the PAPER, at most 900": no patch comes near to it.
    private static void theLongestPatches() {
        written("a".repeat(24), "b".repeat(24), 3, 1,
                "@0,24 0,24\n" + "-a\n".repeat(24) + "+b\n".repeat(24));
        StringBuilder due = new StringBuilder();
        for (int i = 0; i < 24; i += 2) {
            due.append("@" + i + ",1 " + i + ",1\n-x\n+y\n");
        }
        written("xaxbxcxdxexfxgxhxixjxkxl", "yaybycydyeyfygyhyiyjykyl", 0, 12, due.toString());
    }

    // "in place of what was there"
    private static void writeReplacesThePaper() {
        LinePatcher patcher = Check.withTexts("a", "b");
        Check.setPaper(patcher, "anything that is long enough");
        patcher.compare(0, 1, 0);
        for (int time = 0; time < 2; time++) {
            Check.due("write", patcher.write(0), 1);
            Check.due("the paper", Check.paperOf(patcher), "@0,1 0,1\n-a\n+b\n");
        }
    }

    // "without a change it is empty"
    private static void writeWithoutAChangeIsEmpty() {
        for (int context = 0; context < 4; context++) {
            written("", "", context, 0, "");
            written("abc", "abc", context, 0, "");
            LinePatcher patcher = Check.withTexts("ab");
            Check.setPaper(patcher, "paper");
            patcher.compare(0, 0, 1);
            Check.due("write", patcher.write(context), 0);
            Check.due("wipe", patcher.wipe(), 0);
        }
    }

    // "x and y being as they were then"
    private static void writeTellsTextsAsTheyWere() {
        LinePatcher patcher = Check.withTexts("ab", "ac");
        patcher.compare(0, 1, 1);
        Check.setText(patcher, 0, "xyz");
        Check.setText(patcher, 1, "");
        patcher.merge();
        Check.due("write", patcher.write(1), 1);
        Check.due("the paper", Check.paperOf(patcher), "@0,2 0,2\n a\n-b\n+c\n");
        Check.setText(patcher, 0, "ab");
        Check.due("apply", patcher.apply(0), 1);
        Check.due("write", patcher.write(0), 1);
        Check.due("the paper", Check.paperOf(patcher), "@1,1 1,1\n-b\n+c\n");
    }

    // "BAD: context is not 0 .. 3"
    private static void writeOfNoContextIsBad() {
        LinePatcher patcher = Check.withTexts("a", "b");
        Check.setPaper(patcher, "xy");
        for (int context : NO_CONTEXTS) {
            Check.due("BAD before NONE", patcher.write(context), LinePatcher.BAD);
        }
        patcher.compare(0, 1, 0);
        for (int context : NO_CONTEXTS) {
            Check.due("write " + context, patcher.write(context), LinePatcher.BAD);
        }
        Check.due("the paper stays", Check.paperOf(patcher), "xy");
    }

    // "NONE: nothing was compared"
    private static void writeBeforeAComparisonIsNone() {
        LinePatcher patcher = Check.withTexts("a", "b");
        Check.setPaper(patcher, "xy");
        patcher.merge();
        patcher.compare(0, 4, 0);
        for (int context = 0; context < 4; context++) {
            Check.due("write " + context, patcher.write(context), LinePatcher.NONE);
        }
        Check.due("the paper stays", Check.paperOf(patcher), "xy");
        patcher.compare(0, 0, 0);
        Check.due("write", patcher.write(0), 0);
    }
}
