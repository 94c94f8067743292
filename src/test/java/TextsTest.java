/** Promises 1 to 5: a new object, add, clear, size, line. */
public final class TextsTest {
    private static final int[] NO_TEXTS = {-1, 4, 5, Integer.MIN_VALUE, Integer.MAX_VALUE};

    public static void main(String[] args) {
        aNewObjectIsEmpty();
        objectsShareNothing();
        addAppendsTheHighestByteFirst();
        addLooksAtTheLowestBytesAlone();
        addRefusesWrongInputs();
        addRefusesWhatIsTooMuch();
        badComesBeforeFull();
        addLeavesTheComparison();
        clearEmptiesOneText();
        lineAnswersNoneBesideTheText();
        wrongTextsAreBad();
        Check.end();
    }

    private static void aNewObjectIsEmpty() {
        LinePatcher patcher = new LinePatcher();
        for (int text = 0; text < 4; text++) {
            Check.due("size", patcher.size(text), 0);
            Check.due("line", patcher.line(text, 0), LinePatcher.NONE);
        }
        Check.due("match", patcher.match(0), LinePatcher.NONE);
        Check.due("write", patcher.write(0), LinePatcher.NONE);
        Check.due("character", patcher.character(0), LinePatcher.NONE);
        Check.due("read", patcher.read(), -1);
        Check.due("wipe", patcher.wipe(), 0);
    }

    private static void objectsShareNothing() {
        LinePatcher one = Check.withTexts("abc");
        one.compare(0, 1, 0);
        one.write(0);
        LinePatcher other = new LinePatcher();
        Check.due("size of the other", other.size(0), 0);
        Check.due("match of the other", other.match(0), LinePatcher.NONE);
        Check.due("character of the other", other.character(0), LinePatcher.NONE);
        Check.due("size of the one", one.size(0), 3);
    }

    private static void addAppendsTheHighestByteFirst() {
        LinePatcher patcher = new LinePatcher();
        Check.due("add abc", patcher.add(2, Check.packed("abc"), 3), 3);
        Check.due("add z", patcher.add(2, Check.packed("z"), 1), 4);
        Check.due("add 8", patcher.add(2, Check.packed("qrstuvwx"), 8), 12);
        Check.due("text 2", Check.textOf(patcher, 2), "abczqrstuvwx");
        Check.due("the others", patcher.size(0) + patcher.size(1) + patcher.size(3), 0);
        Check.due("text 3", patcher.add(3, Check.packed("ab"), 2), 2);
    }

    private static void addLooksAtTheLowestBytesAlone() {
        LinePatcher patcher = new LinePatcher();
        Check.due("add", patcher.add(0, 0xFFFFFFFFFFFF6162L, 2), 2);
        Check.due("text 0", Check.textOf(patcher, 0), "ab");
    }

    private static void addRefusesWrongInputs() {
        LinePatcher patcher = Check.withTexts("a");
        int[] noCounts = {0, 9, -1, Integer.MIN_VALUE, Integer.MAX_VALUE};
        for (int n : noCounts) {
            Check.due("add n " + n, patcher.add(0, Check.packed("aaaaaaaa"), n), LinePatcher.BAD);
        }
        int[] noLetters = {0, 10, 32, 60, 61, 62, 65, 90, 96, 123, 128, 225, 255};
        for (int noLetter : noLetters) {
            for (int at = 0; at < 8; at++) {
                long others = Check.packed("bcdefghi") & ~(255L << 8 * at);
                long lines = others | (long) noLetter << 8 * at;
                Check.due("add " + noLetter, patcher.add(0, lines, 8), LinePatcher.BAD);
            }
        }
        Check.due("nothing was added", Check.textOf(patcher, 0), "a");
    }

    private static void addRefusesWhatIsTooMuch() {
        LinePatcher patcher = Check.withTexts("abcdefghijklmnopqrst");
        Check.due("add 5", patcher.add(0, Check.packed("vwxyz"), 5), LinePatcher.FULL);
        Check.due("nothing was added", patcher.size(0), 20);
        Check.due("add 4", patcher.add(0, Check.packed("wxyz"), 4), 24);
        Check.due("add 1", patcher.add(0, Check.packed("a"), 1), LinePatcher.FULL);
        Check.due("text 0", Check.textOf(patcher, 0), "abcdefghijklmnopqrstwxyz");
    }

    private static void badComesBeforeFull() {
        LinePatcher patcher = Check.withTexts("abcdefghijklmnopqrstuvwx");
        Check.due("a wrong byte", patcher.add(0, 96, 1), LinePatcher.BAD);
        Check.due("a wrong count", patcher.add(0, 97, 9), LinePatcher.BAD);
    }

    private static void addLeavesTheComparison() {
        LinePatcher patcher = Check.withTexts("ab", "b");
        patcher.compare(0, 1, 0);
        patcher.add(0, Check.packed("c"), 1);
        patcher.add(1, Check.packed("c"), 1);
        Check.due("matches", Check.matchesOf(patcher, 3), ". 0 .");
        patcher.clear(0);
        patcher.clear(1);
        Check.due("matches after clear", Check.matchesOf(patcher, 3), ". 0 .");
        Check.due("write", patcher.write(1), 1);
        Check.due("the paper", Check.paperOf(patcher), "@0,2 0,1\n-a\n b\n");
    }

    private static void clearEmptiesOneText() {
        LinePatcher patcher = Check.withTexts("abc", "de");
        Check.due("clear", patcher.clear(0), 3);
        Check.due("clear again", patcher.clear(0), 0);
        Check.due("line", patcher.line(0, 0), LinePatcher.NONE);
        Check.due("the other", Check.textOf(patcher, 1), "de");
        Check.addLines(patcher, 0, "x");
        Check.due("added after", Check.textOf(patcher, 0), "x");
    }

    private static void lineAnswersNoneBesideTheText() {
        LinePatcher patcher = Check.withTexts("az");
        Check.due("line 0", patcher.line(0, 0), 97);
        Check.due("line 1", patcher.line(0, 1), 122);
        int[] beside = {2, 23, 24, -1, Integer.MAX_VALUE, Integer.MIN_VALUE};
        for (int i : beside) {
            Check.due("line " + i, patcher.line(0, i), LinePatcher.NONE);
        }
    }

    private static void wrongTextsAreBad() {
        LinePatcher patcher = new LinePatcher();
        for (int text : NO_TEXTS) {
            Check.due("add", patcher.add(text, 97, 1), LinePatcher.BAD);
            Check.due("clear", patcher.clear(text), LinePatcher.BAD);
            Check.due("size", patcher.size(text), LinePatcher.BAD);
            Check.due("line", patcher.line(text, 0), LinePatcher.BAD);
            Check.due("line beside", patcher.line(text, -1), LinePatcher.BAD);
        }
    }
}
