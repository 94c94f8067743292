/** Promises 1 to 5: a new object, add, clear, size, line. Each test quotes what it holds. */
public final class TextsTest {
    public static void main(String[] args) {
        allTextsAreEmptyAtFirst();
        nothingWasComparedAtFirst();
        thePaperIsEmptyAtFirst();
        objectsShareNothing();
        eachTextHasRoomFor24Lines();
        theLettersAre97To122();
        linesAreNumberedFromZero();
        addTakesTheHighestByteFirst();
        addLooksAtTheLowestBytesAlone();
        addAnswersTheNewSize();
        addToNoTextIsBad();
        addOfNoCountIsBad();
        addOfNoLetterIsBad();
        addOfTooManyLinesIsFull();
        addThatIsRefusedAddsNothing();
        addAnswersBadBeforeFull();
        addLeavesWhatWasCompared();
        clearAnswersHowManyLinesThereWere();
        clearEmptiesOneTextAlone();
        clearOfNoTextIsBad();
        sizeOfEachLength();
        sizeOfNoTextIsBad();
        lineThatIsThere();
        lineThatIsNotThereIsNone();
        lineOfNoTextIsBad();
        Check.end();
    }

    // "All texts are empty"
    private static void allTextsAreEmptyAtFirst() {
        LinePatcher patcher = new LinePatcher();
        for (int text = 0; text < 4; text++) {
            Check.due("size", patcher.size(text), 0);
            Check.due("line", patcher.line(text, 0), LinePatcher.NONE);
            Check.due("clear", patcher.clear(text), 0);
        }
    }

    // "nothing was compared"
    private static void nothingWasComparedAtFirst() {
        LinePatcher patcher = new LinePatcher();
        Check.due("match", patcher.match(0), LinePatcher.NONE);
        for (int context = 0; context < 4; context++) {
            Check.due("write", patcher.write(context), LinePatcher.NONE);
        }
    }

    // "the paper is empty"
    private static void thePaperIsEmptyAtFirst() {
        LinePatcher patcher = new LinePatcher();
        Check.due("character", patcher.character(0), LinePatcher.NONE);
        Check.due("read", patcher.read(), -1);
        Check.due("apply", patcher.apply(0), 0);
        Check.due("wipe", patcher.wipe(), 0);
    }

    private static void objectsShareNothing() {
        LinePatcher one = Check.withTexts("abc");
        one.compare(0, 1, 0);
        one.write(0);
        LinePatcher other = new LinePatcher();
        Check.due("size of the other", other.size(0), 0);
        Check.due("match of the other", other.match(0), LinePatcher.NONE);
        Check.due("write of the other", other.write(0), LinePatcher.NONE);
        Check.due("character of the other", other.character(0), LinePatcher.NONE);
        Check.due("size of the one", one.size(0), 3);
    }

    // "TEXTS 0, 1, 2, 3 are rows of at most 24 LINES"
    private static void eachTextHasRoomFor24Lines() {
        LinePatcher patcher = new LinePatcher();
        for (int text = 0; text < 4; text++) {
            for (int lines = 1; lines <= 24; lines++) {
                Check.due("add " + lines, patcher.add(text, 96 + lines, 1), lines);
            }
            Check.due("add 25", patcher.add(text, 'z', 1), LinePatcher.FULL);
        }
        for (int text = 0; text < 4; text++) {
            Check.due("text " + text, Check.textOf(patcher, text), Check.FULL_TEXT);
        }
    }

    // "a line is one of the letters a .. z (97 .. 122)"
    private static void theLettersAre97To122() {
        for (int line = 0; line < 256; line++) {
            LinePatcher patcher = new LinePatcher();
            boolean isLetter = line >= 97 && line <= 122;
            Check.due("add " + line, patcher.add(0, line, 1), isLetter ? 1 : LinePatcher.BAD);
            Check.due("line " + line, patcher.line(0, 0), isLetter ? line : LinePatcher.NONE);
        }
    }

    // "Lines of a text are numbered from 0."
    private static void linesAreNumberedFromZero() {
        LinePatcher patcher = Check.withTexts(Check.FULL_TEXT);
        Check.due("the first", patcher.line(0, 0), 'a');
        Check.due("the last", patcher.line(0, 23), 'x');
        Check.due("behind the last", patcher.line(0, 24), LinePatcher.NONE);
    }

    // "Appends the n lowest bytes of lines to a text, the highest of them first"
    private static void addTakesTheHighestByteFirst() {
        for (int n = 1; n <= 8; n++) {
            LinePatcher patcher = Check.withTexts("", "", "z");
            patcher.add(2, Check.packed("qrstuvwx"), n);
            Check.due("add " + n, Check.textOf(patcher, 2), "z" + "qrstuvwx".substring(8 - n));
            Check.due("the others", patcher.size(0) + patcher.size(1) + patcher.size(3), 0);
        }
    }

    private static void addLooksAtTheLowestBytesAlone() {
        for (int n = 1; n < 8; n++) {
            for (long above : new long[] {0, -1L, 0x6060606060606060L}) {
                LinePatcher patcher = new LinePatcher();
                long lines = above << 8 * n | Check.packed("abcdefgh".substring(0, n));
                Check.due("add " + n + " under " + above, patcher.add(0, lines, n), n);
                String due = "abcdefgh".substring(0, n);
                Check.due("text 0", Check.textOf(patcher, 0), due);
            }
        }
    }

    // "how many lines it has then"
    private static void addAnswersTheNewSize() {
        LinePatcher patcher = new LinePatcher();
        Check.due("add 3", patcher.add(1, Check.packed("abc"), 3), 3);
        Check.due("add 1", patcher.add(1, Check.packed("d"), 1), 4);
        Check.due("add 8", patcher.add(1, Check.packed("efghijkl"), 8), 12);
        Check.due("add to another", patcher.add(3, Check.packed("ab"), 2), 2);
    }

    // "BAD: text is not 0 .. 3"
    private static void addToNoTextIsBad() {
        LinePatcher patcher = new LinePatcher();
        for (int text : Check.NO_TEXTS) {
            Check.due("add to " + text, patcher.add(text, 'a', 1), LinePatcher.BAD);
        }
        Check.due("all", patcher.size(0) + patcher.size(1) + patcher.size(2) + patcher.size(3), 0);
    }

    // "n not 1 .. 8"
    private static void addOfNoCountIsBad() {
        LinePatcher patcher = new LinePatcher();
        for (int n : Check.NO_COUNTS) {
            Check.due("add n " + n, patcher.add(0, Check.packed("aaaaaaaa"), n), LinePatcher.BAD);
        }
        Check.due("nothing was added", patcher.size(0), 0);
        Check.due("add n 1", patcher.add(0, Check.packed("aaaaaaaa"), 1), 1);
        Check.due("add n 8", patcher.add(0, Check.packed("aaaaaaaa"), 8), 9);
    }

    // "or one of the bytes no letter"
    private static void addOfNoLetterIsBad() {
        LinePatcher patcher = new LinePatcher();
        for (int noLetter : new int[] {0, 10, 60, 61, 62, 65, 90, 96, 123, 128, 225, 250, 255}) {
            for (int n = 1; n <= 8; n++) {
                for (int at = 0; at < n; at++) {
                    long others = Check.packed("bcdefghi") & ~(255L << 8 * at);
                    long lines = others | (long) noLetter << 8 * at;
                    Check.due("add " + noLetter, patcher.add(3, lines, n), LinePatcher.BAD);
                }
            }
        }
        Check.due("nothing was added", patcher.size(3), 0);
    }

    // "FULL: it would have more than 24."
    private static void addOfTooManyLinesIsFull() {
        for (int had = 16; had <= 24; had++) {
            for (int n = 1; n <= 8; n++) {
                LinePatcher patcher = Check.withTexts(Check.FULL_TEXT.substring(0, had));
                int due = had + n > 24 ? LinePatcher.FULL : had + n;
                Check.due(n + " to " + had, patcher.add(0, Check.packed("zzzzzzzz"), n), due);
                Check.due("size", patcher.size(0), due == LinePatcher.FULL ? had : due);
            }
        }
    }

    private static void addThatIsRefusedAddsNothing() {
        LinePatcher patcher = Check.withTexts("abcdefghijklmnopqrstu");
        patcher.add(0, Check.packed("vwxy"), 4);
        patcher.add(0, Check.packed("vw!"), 3);
        patcher.add(0, Check.packed("!vw"), 3);
        Check.due("text 0", Check.textOf(patcher, 0), "abcdefghijklmnopqrstu");
        Check.due("add 3", patcher.add(0, Check.packed("vwx"), 3), 24);
        Check.due("text 0", Check.textOf(patcher, 0), Check.FULL_TEXT);
    }

    private static void addAnswersBadBeforeFull() {
        LinePatcher patcher = Check.withTexts(Check.FULL_TEXT);
        Check.due("a wrong byte", patcher.add(0, 96, 1), LinePatcher.BAD);
        Check.due("a wrong count", patcher.add(0, 'a', 9), LinePatcher.BAD);
    }

    // "What was compared stays as it was."
    private static void addLeavesWhatWasCompared() {
        LinePatcher patcher = Check.withTexts("ab", "b");
        patcher.compare(0, 1, 0);
        patcher.add(0, Check.packed("c"), 1);
        patcher.add(1, Check.packed("c"), 1);
        Check.due("matches", Check.matchesOf(patcher, 3), ". 0 .");
        Check.due("write", patcher.write(3), 1);
        Check.due("the paper", Check.paperOf(patcher), "@0,2 0,1\n-a\n b\n");
    }

    // "A text is empty; how many lines it had."
    private static void clearAnswersHowManyLinesThereWere() {
        for (int text = 0; text < 4; text++) {
            for (int had = 0; had <= 24; had++) {
                LinePatcher patcher = new LinePatcher();
                Check.addLines(patcher, text, Check.FULL_TEXT.substring(0, had));
                Check.due("clear", patcher.clear(text), had);
                Check.due("clear again", patcher.clear(text), 0);
                Check.due("line", patcher.line(text, 0), LinePatcher.NONE);
                Check.addLines(patcher, text, Check.FULL_TEXT);
                Check.due("then", Check.textOf(patcher, text), Check.FULL_TEXT);
            }
        }
    }

    private static void clearEmptiesOneTextAlone() {
        LinePatcher patcher = Check.withTexts("abc", "de", "f", "gh");
        patcher.compare(0, 1, 0);
        Check.setPaper(patcher, "xy");
        patcher.clear(1);
        Check.due("text 0", Check.textOf(patcher, 0), "abc");
        Check.due("text 1", Check.textOf(patcher, 1), "");
        Check.due("text 2", Check.textOf(patcher, 2), "f");
        Check.due("text 3", Check.textOf(patcher, 3), "gh");
        Check.due("the paper", Check.paperOf(patcher), "xy");
        Check.due("write", patcher.write(0), 1);
        Check.due("y as it was", Check.paperOf(patcher), "@0,3 0,2\n-a\n-b\n-c\n+d\n+e\n");
    }

    // "BAD: text is not 0 .. 3."
    private static void clearOfNoTextIsBad() {
        LinePatcher patcher = Check.withTexts("a", "b", "c", "d");
        for (int text : Check.NO_TEXTS) {
            Check.due("clear " + text, patcher.clear(text), LinePatcher.BAD);
        }
        Check.due("all", patcher.size(0) + patcher.size(1) + patcher.size(2) + patcher.size(3), 4);
    }

    // "How many lines a text has."
    private static void sizeOfEachLength() {
        for (int text = 0; text < 4; text++) {
            LinePatcher patcher = new LinePatcher();
            for (int lines = 0; lines <= 24; lines++) {
                Check.due("size of " + text, patcher.size(text), lines);
                patcher.add(text, 'a', 1);
            }
            Check.due("size of a full one", patcher.size(text), 24);
        }
    }

    // "BAD."
    private static void sizeOfNoTextIsBad() {
        LinePatcher patcher = new LinePatcher();
        for (int text : Check.NO_TEXTS) {
            Check.due("size of " + text, patcher.size(text), LinePatcher.BAD);
        }
    }

    // "Line i of a text"
    private static void lineThatIsThere() {
        LinePatcher patcher = Check.withTexts("a", "b", "c");
        Check.due("merge", patcher.merge(), 1);
        int[] due = {60, 'b', 61, 'c', 62};
        for (int i = 0; i < due.length; i++) {
            Check.due("line " + i, patcher.line(3, i), due[i]);
        }
        Check.due("line of another", patcher.line(0, 0), 'a');
    }

    // "NONE: there is none."
    private static void lineThatIsNotThereIsNone() {
        LinePatcher patcher = Check.withTexts("abc");
        patcher.clear(0);
        Check.due("line that was there", patcher.line(0, 0), LinePatcher.NONE);
        Check.addLines(patcher, 0, "az");
        for (int i : new int[] {2, 3, 23, 24, 25, -1, -3, Integer.MAX_VALUE, Integer.MIN_VALUE}) {
            Check.due("line " + i, patcher.line(0, i), LinePatcher.NONE);
        }
    }

    // "BAD: text is not 0 .. 3."
    private static void lineOfNoTextIsBad() {
        LinePatcher patcher = Check.withTexts("a", "a", "a", "a");
        for (int text : Check.NO_TEXTS) {
            Check.due("line of " + text, patcher.line(text, 0), LinePatcher.BAD);
            Check.due("no line of " + text, patcher.line(text, -1), LinePatcher.BAD);
        }
    }
}
