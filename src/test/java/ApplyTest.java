/** Promise 13: apply. Each test quotes what it holds. */
public final class ApplyTest {
    public static void main(String[] args) {
        anEmptyPaperChangesNothing();
        oldLinesAreReplacedByNewOnes();
        eachTextCanBeChanged();
        theNearestPlace();
        ofTwoPlacesTheEarlierOne();
        placesFarFromTheNumber();
        hunksThatJustFit();
        aHunkWithoutOldLinesFitsEverywhere();
        aHunkWithoutOldLinesAtTheEnd();
        aHunkWithoutNewLines();
        hunksRightBehindTheOneBefore();
        hunksNotBeforeTheEndOfTheOneBefore();
        placesAreThoseBeforeAllReplacing();
        aHunkWithoutAPlaceIsRefused();
        theNumberOfTheRefusedHunk();
        afterARefusedHunkNothingIsChanged();
        textsOf24LinesAtMost();
        textsTooLongAfterOneHunk();
        applyAnswersHowManyHunks();
        applyToNoTextIsBad();
        applyOfAPaperThatFailsIsBad();
        applyLeavesPaperAndComparison();
        textsWithConflicts();
        writtenPatchesFit();
        Check.end();
    }

    private static void applied(String text, String paper, int due, String then) {
        for (LinePatcher patcher : Check.newAndUsed()) {
            Check.addLines(patcher, 1, text);
            Check.setPaper(patcher, paper);
            String call = "apply of " + Check.shown(paper) + " to " + text;
            Check.due(call, patcher.apply(1), due);
            Check.due(call, Check.textOf(patcher, 1), then);
        }
    }

    private static void refused(String text, String paper, int hunk) {
        applied(text, paper, LinePatcher.NONE - hunk, text);
    }

    private static void anEmptyPaperChangesNothing() {
        applied("", "", 0, "");
        applied("abc", "", 0, "abc");
        applied(Check.FULL_TEXT, "", 0, Check.FULL_TEXT);
    }

    // "its OLD lines (32 and 45) [...] are replaced by its NEW lines (32 and 43)"
    private static void oldLinesAreReplacedByNewOnes() {
        applied("abc", "@1,1 1,1\n-b\n+x\n", 1, "axc");
        applied("abc", "@0,3 0,2\n a\n-b\n c\n", 1, "ac");
        applied("abc", "@0,2 0,3\n+x\n a\n+y\n-b\n", 1, "xayc");
        applied("abc", "@0,1 0,0\n-a\n@2,1 1,2\n+q\n c\n", 2, "bqc");
        applied("abc", "@1,1 1,1\n b\n", 1, "abc");
    }

    private static void eachTextCanBeChanged() {
        for (int text = 0; text < 4; text++) {
            LinePatcher patcher = Check.withTexts("ab", "ab", "ab", "ab");
            Check.setPaper(patcher, "@0,1 0,1\n-a\n+x\n");
            Check.due("apply to " + text, patcher.apply(text), 1);
            for (int other = 0; other < 4; other++) {
                Check.due("then", Check.textOf(patcher, other), other == text ? "xb" : "ab");
            }
        }
    }

    // "at the place nearest to the number in x that it names"
    private static void theNearestPlace() {
        String[] due = {"xbbabbba", "xbbabbba", "abbxbbba", "abbxbbba", "abbxbbba", "abbxbbba",
            "abbabbbx", "abbabbbx"};
        for (int named = 0; named < due.length; named++) {
            applied("abbabbba", "@" + named + ",1 0,1\n-a\n+x\n", 1, due[named]);
        }
        applied("ababab", "@5,3 0,0\n-b\n-a\n-b\n", 1, "aba");
        applied("aabaab", "@2,2 0,1\n-a\n-b\n+x\n", 1, "axaab");
    }

    // "(of two the earlier one)"
    private static void ofTwoPlacesTheEarlierOne() {
        applied("aba", "@1,1 0,1\n-a\n+x\n", 1, "xba");
        applied("abaca", "@1,1 0,1\n-a\n+x\n", 1, "xbaca");
        applied("abaca", "@3,1 0,1\n-a\n+x\n", 1, "abxca");
        applied("abbba", "@2,1 0,1\n-a\n+x\n", 1, "xbbba");
        applied("abab", "@1,2 0,1\n-a\n-b\n+x\n", 1, "xab");
    }

    private static void placesFarFromTheNumber() {
        applied("abaca", "@99,1 0,1\n-a\n+x\n", 1, "abacx");
        applied("bbbba", "@0,1 0,1\n-a\n+x\n", 1, "bbbbx");
        applied("abbbb", "@99,1 0,1\n-a\n+x\n", 1, "xbbbb");
        applied("abbbb", "@24,1 0,1\n-a\n+x\n", 1, "xbbbb");
    }

    private static void hunksThatJustFit() {
        applied("abc", "@0,3 0,0\n-a\n-b\n-c\n", 1, "");
        applied("abc", "@9,2 0,1\n-b\n-c\n+x\n", 1, "ax");
        applied("aaa", "@5,2 0,1\n-a\n-a\n+x\n", 1, "ax");
        applied("a".repeat(24), "@0,24 0,1\n" + "-a\n".repeat(24) + "+z\n", 1, "z");
        refused("a".repeat(23), "@0,24 0,1\n" + "-a\n".repeat(24) + "+z\n", 0);
        refused("abc", "@0,4 0,0\n-a\n-b\n-c\n-d\n", 0);
        refused("a", "@0,99 0,99\n" + " a\n".repeat(99), 0);
    }

    // "a hunk without old lines fits everywhere"
    private static void aHunkWithoutOldLinesFitsEverywhere() {
        applied("", "@0,0 0,1\n+x\n", 1, "x");
        applied("abc", "@0,0 0,1\n+x\n", 1, "xabc");
        applied("abc", "@1,0 0,1\n+x\n", 1, "axbc");
        applied("abc", "@2,0 0,2\n+x\n+y\n", 1, "abxyc");
    }

    // "(also at the text's end)"
    private static void aHunkWithoutOldLinesAtTheEnd() {
        applied("abc", "@3,0 0,1\n+x\n", 1, "abcx");
        applied("abc", "@4,0 0,1\n+x\n", 1, "abcx");
        applied("abc", "@99,0 0,1\n+x\n", 1, "abcx");
        applied("", "@7,0 0,1\n+x\n", 1, "x");
        String most = Check.FULL_TEXT.substring(0, 23);
        applied(most, "@23,0 0,1\n+z\n", 1, most + "z");
    }

    private static void aHunkWithoutNewLines() {
        applied("abc", "@0,1 0,0\n-a\n", 1, "bc");
        applied("abc", "@2,1 0,0\n-c\n", 1, "ab");
        applied("a", "@0,1 0,0\n-a\n", 1, "");
    }

    // "at or behind the end of the place where the hunk before it was found"
    private static void hunksRightBehindTheOneBefore() {
        applied("aa", "@0,1 0,1\n-a\n+x\n@0,1 0,1\n-a\n+y\n", 2, "xy");
        applied("aba", "@0,1 0,1\n-a\n+x\n@0,1 0,1\n-a\n+y\n", 2, "xby");
        applied("abcb", "@2,1 0,0\n-c\n@0,1 0,0\n-b\n", 2, "ab");
        applied("ab", "@0,1 0,1\n a\n@0,0 0,1\n+x\n", 2, "axb");
        applied("ab", "@1,0 0,1\n+x\n@0,0 0,1\n+y\n", 2, "axyb");
        applied("ab", "@1,0 0,1\n+x\n@0,1 0,1\n-b\n+y\n", 2, "axy");
        applied("ab", "@0,2 0,0\n-a\n-b\n@0,0 0,1\n+y\n", 2, "y");
    }

    private static void hunksNotBeforeTheEndOfTheOneBefore() {
        refused("ba", "@0,1 0,1\n a\n@0,1 0,1\n-b\n+y\n", 1);
        refused("aab", "@0,2 0,2\n a\n a\n@0,2 0,0\n-a\n-b\n", 1);
        refused("ab", "@2,0 0,1\n+x\n@1,1 0,0\n-b\n", 1);
        refused("a", "@0,1 0,1\n a\n@0,1 0,1\n a\n", 1);
        applied("baab", "@1,1 0,1\n a\n@0,1 0,1\n-b\n+y\n", 2, "baay");
    }

    // "(Places are those in the text before all replacing.)"
    private static void placesAreThoseBeforeAllReplacing() {
        applied("abcdb", "@0,0 0,3\n+x\n+y\n+z\n@2,1 0,0\n-b\n", 2, "xyzacdb");
        applied("abc", "@0,1 0,2\n-a\n+b\n+b\n@0,1 0,0\n-b\n", 2, "bbc");
        applied("acbab", "@0,2 0,0\n-a\n-c\n@3,1 0,1\n-b\n+y\n", 2, "yab");
        refused("ac", "@0,1 0,1\n-a\n+b\n@0,1 0,0\n-b\n", 1);
        refused("abc", "@1,1 0,0\n-b\n@0,2 0,0\n-a\n-c\n", 1);
    }

    // "The first hunk for which there is no such place [...] is REFUSED"
    private static void aHunkWithoutAPlaceIsRefused() {
        refused("abc", "@0,1 0,0\n-d\n", 0);
        refused("", "@0,1 0,1\n a\n", 0);
        refused("abc", "@0,2 0,0\n-a\n-c\n", 0);
        refused("abc", "@0,2 0,0\n-c\n-d\n", 0);
        refused("abc", "@0,1 0,0\n-d\n@0,1 0,0\n-e\n", 0);
        refused("abc", "@0,1 0,0\n-d\n@0,1 0,0\n-a\n", 0);
    }

    // "NONE less the number (from 0) of the hunk that is refused"
    private static void theNumberOfTheRefusedHunk() {
        LinePatcher patcher = Check.withTexts("a".repeat(24));
        Check.setPaper(patcher, "@0,1 0,0\n-b\n");
        Check.due("the first", patcher.apply(0), -3);
        Check.setPaper(patcher, "@0,1 0,1\n a\n@0,1 0,0\n-b\n");
        Check.due("the second", patcher.apply(0), -4);
        Check.setPaper(patcher, "@0,1 0,1\n a\n".repeat(25));
        Check.due("the twenty-fifth", patcher.apply(0), -27);
        Check.setPaper(patcher, "@0,1 0,0\n-a\n@0,0 0,1\n+b\n".repeat(24) + "@0,1 0,0\n-b\n");
        Check.due("the forty-ninth", patcher.apply(0), -51);
    }

    // "and then nothing is changed"
    private static void afterARefusedHunkNothingIsChanged() {
        refused("abc", "@0,1 0,0\n-a\n@0,1 0,0\n-d\n", 1);
        refused("abc", "@0,1 0,0\n-a\n@0,1 0,0\n-b\n@0,1 0,0\n-d\n", 2);
        refused("a", "@0,1 0,1\n a\n" + "@0,0 0,1\n+b\n".repeat(23) + "@0,1 0,0\n-a\n", 24);
        LinePatcher patcher = Check.withTexts("abc", "ab");
        patcher.compare(0, 1, 0);
        String paper = "@0,1 0,0\n-a\n@0,1 0,0\n-a\n";
        Check.setPaper(patcher, paper);
        Check.due("apply", patcher.apply(0), -4);
        Check.due("text 0", Check.textOf(patcher, 0), "abc");
        Check.due("the paper", Check.paperOf(patcher), paper);
        Check.due("matches", Check.matchesOf(patcher, 3), "0 1 .");
    }

    // "(or after which the text would have more than 24 lines)"
    private static void textsOf24LinesAtMost() {
        String full = Check.FULL_TEXT;
        applied("", "@0,0 0,24\n" + "+z\n".repeat(24), 1, "z".repeat(24));
        refused("", "@0,0 0,25\n" + "+z\n".repeat(25), 0);
        applied("a", "@0,1 0,24\n-a\n" + "+z\n".repeat(24), 1, "z".repeat(24));
        refused("a", "@0,1 0,25\n-a\n" + "+z\n".repeat(25), 0);
        refused("a", "@0,1 0,99\n-a\n" + "+z\n".repeat(99), 0);
        refused(full, "@0,0 0,1\n+z\n", 0);
        refused(full, "@24,0 0,1\n+z\n", 0);
        applied(full, "@0,1 0,1\n-a\n+z\n", 1, "z" + full.substring(1));
        refused(full, "@0,1 0,2\n-a\n+z\n+z\n", 0);
    }

    private static void textsTooLongAfterOneHunk() {
        String full = Check.FULL_TEXT;
        applied(full, "@0,1 0,0\n-a\n@3,0 0,1\n+z\n", 2, "bczdefghijklmnopqrstuvwx");
        refused(full, "@0,0 0,1\n+z\n@3,1 0,0\n-d\n", 0);
        refused(full, "@0,1 0,0\n-a\n@3,0 0,2\n+z\n+z\n@9,1 0,0\n-j\n", 1);
        refused(full.substring(2), "@0,0 0,1\n+z\n".repeat(3), 2);
    }

    // "how many hunks it has"
    private static void applyAnswersHowManyHunks() {
        applied("abc", "@0,1 0,1\n a\n", 1, "abc");
        applied("abc", "@0,1 0,1\n a\n@0,1 0,1\n b\n", 2, "abc");
        applied("a".repeat(24), "@0,1 0,0\n-a\n@0,0 0,1\n+b\n".repeat(24), 48, "b".repeat(24));
    }

    // "BAD: text is not 0 .. 3"
    private static void applyToNoTextIsBad() {
        LinePatcher patcher = Check.withTexts("a", "a", "a", "a");
        for (int text : Check.NO_TEXTS) {
            Check.due("apply to " + text, patcher.apply(text), LinePatcher.BAD);
        }
        Check.setPaper(patcher, "@0,1 0,0\n-a\n");
        for (int text : Check.NO_TEXTS) {
            Check.due("apply to " + text, patcher.apply(text), LinePatcher.BAD);
        }
        Check.due("all", patcher.size(0) + patcher.size(1) + patcher.size(2) + patcher.size(3), 4);
    }

    // "or the paper fails"
    private static void applyOfAPaperThatFailsIsBad() {
        applied("abc", "x", LinePatcher.BAD, "abc");
        applied("abc", "@", LinePatcher.BAD, "abc");
        applied("abc", "@0,1 0,0\n-a\n@", LinePatcher.BAD, "abc");
        applied("abc", "@0,1 0,0\n-a", LinePatcher.BAD, "abc");
        applied("abc", "@0,1 0,0\n-d\n@", LinePatcher.BAD, "abc");
        applied("abc", "@0,0 0,0\n", LinePatcher.BAD, "abc");
        applied("abc", "@0,1 0,1\n-a\n+<\n", LinePatcher.BAD, "abc");
    }

    // "Reads the paper (which stays)"
    private static void applyLeavesPaperAndComparison() {
        LinePatcher patcher = Check.withTexts("ab", "b");
        patcher.compare(0, 1, 0);
        patcher.write(1);
        String paper = Check.paperOf(patcher);
        Check.due("apply", patcher.apply(0), 1);
        Check.due("the paper", Check.paperOf(patcher), paper);
        Check.due("matches", Check.matchesOf(patcher, 2), ". 0");
        Check.due("text 0", Check.textOf(patcher, 0), "b");
        Check.due("text 1", Check.textOf(patcher, 1), "b");
        Check.due("apply again", patcher.apply(0), -3);
    }

    private static void textsWithConflicts() {
        LinePatcher patcher = Check.withTexts("a", "b", "c");
        patcher.merge();
        Check.setPaper(patcher, "@0,1 0,1\n-c\n+d\n");
        Check.due("apply to 3", patcher.apply(3), 1);
        Check.due("text 3", Check.textOf(patcher, 3), "<b=d>");
        Check.due("compare", patcher.compare(3, 0, 0), LinePatcher.NONE);
    }

    /** Texts of at most 12 lines: no hunk of theirs makes a text of more than 24 on the way. */
    private static void writtenPatchesFit() {
        String[] texts = {"", "a", "abcabcabc", "cabacbacb", "bbbbbbbb", "abcdefghijkl",
            "lkjihgfedcba", "acegikacegik"};
        for (String x : texts) {
            for (String y : texts) {
                for (int kind = 0; kind < 8; kind++) {
                    LinePatcher patcher = Check.withTexts(x, y);
                    patcher.compare(0, 1, kind % 2);
                    int hunks = patcher.write(kind / 2);
                    Check.due("apply " + x + " " + y, patcher.apply(0), hunks);
                    Check.due("text 0", Check.textOf(patcher, 0), y);
                }
            }
        }
    }
}
