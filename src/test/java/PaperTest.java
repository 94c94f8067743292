/** Promises 8 to 11: write, type, wipe, character. */
public final class PaperTest {
    public static void main(String[] args) {
        aPatchWithEachContext();
        changesAreJoinedUpToTwiceTheContext();
        hunksWithoutLinesOfOneText();
        contextEndsWithTheText();
        writeReplacesThePaper();
        writeTellsTextsAsTheyWere();
        writeRefusesWrongInputs();
        numbersOfTwoDigits();
        typeAppendsAnyBytes();
        typeRefusesWhatIsTooMuch();
        wipeEmptiesThePaper();
        characterBesideThePaper();
        Check.end();
    }

    private static void written(String x, String y, int context, int hunks, String paper) {
        LinePatcher patcher = Check.withTexts(x, y);
        patcher.compare(0, 1, 0);
        String call = "write of " + x + " " + y + " " + context;
        Check.due(call, patcher.write(context), hunks);
        Check.due(call, Check.paperOf(patcher), paper);
        Check.due("read", patcher.read(), -1);
    }

    private static void aPatchWithEachContext() {
        written("abcdefgh", "abcdxfgh", 0, 1, "@4,1 4,1\n-e\n+x\n");
        written("abcdefgh", "abcdxfgh", 1, 1, "@3,3 3,3\n d\n-e\n+x\n f\n");
        written("abcdefgh", "abcdxfgh", 2, 1, "@2,5 2,5\n c\n d\n-e\n+x\n f\n g\n");
        written("abcdefgh", "abcdxfgh", 3, 1, "@1,7 1,7\n b\n c\n d\n-e\n+x\n f\n g\n h\n");
    }

    private static void changesAreJoinedUpToTwiceTheContext() {
        written("pabq", "ab", 1, 1, "@0,4 0,2\n-p\n a\n b\n-q\n");
        written("pabcq", "abc", 1, 2, "@0,2 0,1\n-p\n a\n@3,2 2,1\n c\n-q\n");
        written("paq", "a", 0, 2, "@0,1 0,0\n-p\n@2,1 1,0\n-q\n");
        written("pabcdq", "abcd", 2, 1, "@0,6 0,4\n-p\n a\n b\n c\n d\n-q\n");
        written("pabcdeq", "abcde", 2, 2, "@0,3 0,2\n-p\n a\n b\n@4,3 3,2\n d\n e\n-q\n");
        written("pabcdefq", "abcdef", 3, 1, "@0,8 0,6\n-p\n a\n b\n c\n d\n e\n f\n-q\n");
        written("pabcdefgq", "abcdefg", 3, 2,
                "@0,4 0,3\n-p\n a\n b\n c\n@5,4 4,3\n e\n f\n g\n-q\n");
        written("paqbr", "ab", 1, 1, "@0,5 0,2\n-p\n a\n-q\n b\n-r\n");
    }

    private static void hunksWithoutLinesOfOneText() {
        written("ab", "axb", 0, 1, "@1,0 1,1\n+x\n");
        written("axb", "ab", 0, 1, "@1,1 1,0\n-x\n");
        written("", "ab", 3, 1, "@0,0 0,2\n+a\n+b\n");
        written("ab", "", 3, 1, "@0,2 0,0\n-a\n-b\n");
        written("ab", "abc", 0, 1, "@2,0 2,1\n+c\n");
    }

    private static void contextEndsWithTheText() {
        written("abc", "axc", 3, 1, "@0,3 0,3\n a\n-b\n+x\n c\n");
        written("abcd", "yabcd", 2, 1, "@0,2 0,3\n+y\n a\n b\n");
        written("abcd", "abcdy", 2, 1, "@2,2 2,3\n c\n d\n+y\n");
        written("ab", "xy", 1, 1, "@0,2 0,2\n-a\n-b\n+x\n+y\n");
    }

    private static void writeReplacesThePaper() {
        LinePatcher patcher = Check.withTexts("a", "a", "b");
        Check.setPaper(patcher, "anything that is long enough");
        patcher.compare(0, 2, 0);
        Check.due("write", patcher.write(0), 1);
        Check.due("the paper", Check.paperOf(patcher), "@0,1 0,1\n-a\n+b\n");
        Check.due("write again", patcher.write(0), 1);
        Check.due("the paper", Check.paperOf(patcher), "@0,1 0,1\n-a\n+b\n");
        patcher.compare(0, 1, 0);
        Check.due("write of no change", patcher.write(3), 0);
        Check.due("the paper", Check.paperOf(patcher), "");
    }

    private static void writeTellsTextsAsTheyWere() {
        LinePatcher patcher = Check.withTexts("ab", "ac");
        patcher.compare(0, 1, 1);
        Check.setText(patcher, 0, "xyz");
        Check.setText(patcher, 1, "");
        patcher.merge();
        Check.due("write", patcher.write(1), 1);
        Check.due("the paper", Check.paperOf(patcher), "@0,2 0,2\n a\n-b\n+c\n");
        patcher.apply(0);
        Check.due("write", patcher.write(0), 1);
        Check.due("the paper", Check.paperOf(patcher), "@1,1 1,1\n-b\n+c\n");
    }

    private static void writeRefusesWrongInputs() {
        LinePatcher patcher = Check.withTexts("a", "b");
        Check.setPaper(patcher, "xy");
        Check.due("nothing was compared", patcher.write(3), LinePatcher.NONE);
        int[] noContexts = {-1, 4, Integer.MIN_VALUE, Integer.MAX_VALUE};
        for (int context : noContexts) {
            Check.due("BAD before NONE", patcher.write(context), LinePatcher.BAD);
        }
        patcher.compare(0, 1, 0);
        for (int context : noContexts) {
            Check.due("write " + context, patcher.write(context), LinePatcher.BAD);
        }
        Check.due("the paper stays", Check.paperOf(patcher), "xy");
    }

    private static void numbersOfTwoDigits() {
        written("abcdefghij", "abcdefghijk", 0, 1, "@10,0 10,1\n+k\n");
        written("abcdefghijklmnopqrstuvwx", "abcdefghijklmnopqrstvwx", 2, 1,
                "@18,5 18,4\n s\n t\n-u\n v\n w\n");
        written("abcdefghijkl", "", 0, 1,
                "@0,12 0,0\n-a\n-b\n-c\n-d\n-e\n-f\n-g\n-h\n-i\n-j\n-k\n-l\n");
        written("abcdefghijklmnopqrstuvwx", "bcdefghijklmnopqrstuvwx", 0, 1, "@0,1 0,0\n-a\n");
    }

    private static void typeAppendsAnyBytes() {
        LinePatcher patcher = new LinePatcher();
        Check.due("type", patcher.type(0xFF00_80FDL, 4), 4);
        Check.due("type", patcher.type(-1L, 8), 12);
        Check.due("type", patcher.type(0x4142_4344L, 1), 13);
        int[] due = {255, 0, 128, 253, 255, 255, 255, 255, 255, 255, 255, 255, 0x44};
        for (int i = 0; i < due.length; i++) {
            Check.due("character " + i, patcher.character(i), due[i]);
        }
        Check.due("behind", patcher.character(13), LinePatcher.NONE);
        int[] noCounts = {0, 9, -1, Integer.MIN_VALUE, Integer.MAX_VALUE};
        for (int n : noCounts) {
            Check.due("type n " + n, patcher.type(65, n), LinePatcher.BAD);
        }
        Check.due("nothing was typed", patcher.wipe(), 13);
    }

    private static void typeRefusesWhatIsTooMuch() {
        LinePatcher patcher = new LinePatcher();
        for (int i = 1; i <= 112; i++) {
            Check.due("type", patcher.type(Check.packed("abcdefgh"), 8), 8 * i);
        }
        Check.due("type 5", patcher.type(Check.packed("12345"), 5), LinePatcher.FULL);
        Check.due("nothing was typed", patcher.character(896), LinePatcher.NONE);
        Check.due("type 4", patcher.type(Check.packed("1234"), 4), 900);
        Check.due("type 1", patcher.type(65, 1), LinePatcher.FULL);
        Check.due("BAD before FULL", patcher.type(65, 9), LinePatcher.BAD);
        Check.due("the last", patcher.character(899), '4');
        Check.due("behind", patcher.character(900), LinePatcher.NONE);
        Check.due("wipe", patcher.wipe(), 900);
    }

    private static void wipeEmptiesThePaper() {
        LinePatcher patcher = new LinePatcher();
        Check.setPaper(patcher, "abc");
        Check.due("wipe", patcher.wipe(), 3);
        Check.due("character", patcher.character(0), LinePatcher.NONE);
        Check.due("wipe again", patcher.wipe(), 0);
        Check.due("type", patcher.type(66, 1), 1);
        Check.due("character", patcher.character(0), 66);
    }

    private static void characterBesideThePaper() {
        LinePatcher patcher = new LinePatcher();
        Check.setPaper(patcher, "abc");
        int[] beside = {3, 900, -1, Integer.MIN_VALUE, Integer.MAX_VALUE};
        for (int i : beside) {
            Check.due("character " + i, patcher.character(i), LinePatcher.NONE);
        }
    }
}
