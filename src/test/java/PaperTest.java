/** Promises 9 to 11: type, wipe, character. Each test quotes what it holds. */
public final class PaperTest {
    public static void main(String[] args) {
        typeTakesTheHighestByteFirst();
        typeLooksAtTheLowestBytesAlone();
        typeTakesAnyBytes();
        typeGoesOnBehindThePaper();
        typeOfNoCountIsBad();
        thePaperHasRoomFor900();
        typeOfTooManyIsFull();
        typeAnswersBadBeforeFull();
        wipeAnswersHowManyThereWere();
        wipeEmptiesThePaperAlone();
        characterThatIsThere();
        characterThatIsNotThereIsNone();
        Check.end();
    }

    // "Puts the n lowest bytes [...] behind the paper, the highest of them first"
    private static void typeTakesTheHighestByteFirst() {
        for (int n = 1; n <= 8; n++) {
            LinePatcher patcher = new LinePatcher();
            Check.due("type " + n, patcher.type(Check.packed("12345678"), n), n);
            Check.due("the paper", Check.paperOf(patcher), "12345678".substring(8 - n));
        }
    }

    private static void typeLooksAtTheLowestBytesAlone() {
        LinePatcher patcher = new LinePatcher();
        Check.due("type", patcher.type(-1L << 16 | 0x4142, 2), 2);
        Check.due("the paper", Check.paperOf(patcher), "AB");
    }

    // "(any ones)"
    private static void typeTakesAnyBytes() {
        LinePatcher patcher = new LinePatcher();
        for (int first = 0; first < 256; first += 8) {
            long bytes = 0;
            for (int next = first; next < first + 8; next++) {
                bytes = bytes << 8 | next;
            }
            Check.due("type", patcher.type(bytes, 8), first + 8);
        }
        for (int i = 0; i < 256; i++) {
            Check.due("character " + i, patcher.character(i), i);
        }
    }

    // "how many characters it has then"
    private static void typeGoesOnBehindThePaper() {
        LinePatcher patcher = Check.withTexts("a", "b");
        patcher.compare(0, 1, 0);
        patcher.write(0);
        Check.due("type behind a patch", patcher.type('x', 1), 16);
        Check.due("type 2", patcher.type(Check.packed("yz"), 2), 18);
        Check.due("the paper", Check.paperOf(patcher), "@0,1 0,1\n-a\n+b\nxyz");
    }

    // "BAD: n is not 1 .. 8"
    private static void typeOfNoCountIsBad() {
        LinePatcher patcher = new LinePatcher();
        for (int n : Check.NO_COUNTS) {
            Check.due("type n " + n, patcher.type(Check.packed("aaaaaaaa"), n), LinePatcher.BAD);
        }
        Check.due("nothing was typed", patcher.wipe(), 0);
    }

    private static LinePatcher withCharacters(int count) {
        LinePatcher patcher = new LinePatcher();
        Check.setPaper(patcher, "abcdefghi".repeat(100).substring(0, count));
        return patcher;
    }

    // "kept as a row of characters, the PAPER, at most 900"
    private static void thePaperHasRoomFor900() {
        LinePatcher patcher = withCharacters(896);
        for (int due = 897; due <= 900; due++) {
            Check.due("type", patcher.type('z', 1), due);
        }
        Check.due("type one more", patcher.type('z', 1), LinePatcher.FULL);
        Check.due("the last", patcher.character(899), 'z');
        Check.due("the first", patcher.character(0), 'a');
        Check.due("behind", patcher.character(900), LinePatcher.NONE);
    }

    // "FULL: it would have more than 900"
    private static void typeOfTooManyIsFull() {
        for (int had = 892; had <= 900; had++) {
            for (int n = 1; n <= 8; n++) {
                LinePatcher patcher = withCharacters(had);
                int due = had + n > 900 ? LinePatcher.FULL : had + n;
                String call = "type " + n + " behind " + had;
                Check.due(call, patcher.type(Check.packed("zzzzzzzz"), n), due);
                int first = due == LinePatcher.FULL ? LinePatcher.NONE : 'z';
                Check.due(call, patcher.character(had), first);
                Check.due(call, patcher.wipe(), due == LinePatcher.FULL ? had : due);
            }
        }
    }

    private static void typeAnswersBadBeforeFull() {
        LinePatcher patcher = withCharacters(900);
        for (int n : Check.NO_COUNTS) {
            Check.due("type n " + n, patcher.type('z', n), LinePatcher.BAD);
        }
    }

    // "The paper is empty; how many characters it had."
    private static void wipeAnswersHowManyThereWere() {
        for (int had : new int[] {0, 1, 8, 9, 899, 900}) {
            LinePatcher patcher = withCharacters(had);
            Check.due("wipe", patcher.wipe(), had);
            Check.due("wipe again", patcher.wipe(), 0);
            Check.due("character", patcher.character(0), LinePatcher.NONE);
            Check.due("read", patcher.read(), -1);
            Check.due("type", patcher.type('B', 1), 1);
            Check.due("the paper", Check.paperOf(patcher), "B");
        }
    }

    private static void wipeEmptiesThePaperAlone() {
        LinePatcher patcher = Check.withTexts("ab", "b");
        patcher.compare(0, 1, 0);
        patcher.write(0);
        Check.due("wipe", patcher.wipe(), 12);
        Check.due("text 0", Check.textOf(patcher, 0), "ab");
        Check.due("match", patcher.match(1), 0);
        Check.due("write", patcher.write(0), 1);
    }

    // "Character i of the paper"
    private static void characterThatIsThere() {
        LinePatcher patcher = withCharacters(900);
        for (int i : new int[] {0, 1, 8, 9, 24, 450, 898, 899}) {
            Check.due("character " + i, patcher.character(i), 'a' + i % 9);
        }
    }

    // "NONE: there is none."
    private static void characterThatIsNotThereIsNone() {
        LinePatcher patcher = withCharacters(40);
        patcher.wipe();
        Check.due("character that was there", patcher.character(0), LinePatcher.NONE);
        Check.setPaper(patcher, "abc");
        for (int i : new int[] {3, 4, 39, 900, 901, -1, Integer.MIN_VALUE, Integer.MAX_VALUE}) {
            Check.due("character " + i, patcher.character(i), LinePatcher.NONE);
        }
        LinePatcher full = withCharacters(900);
        Check.due("behind a full one", full.character(900), LinePatcher.NONE);
        Check.due("before it", full.character(-1), LinePatcher.NONE);
    }
}
