/** Promise 12: read. Each test quotes what it holds. */
public final class ReadTest {
    private static final String DIGITS = "0123456789";
    private static final String LETTERS = "abcdefghijklmnopqrstuvwxyz";

    public static void main(String[] args) {
        anEmptyPaperIsAPatch();
        onlySomeCharactersCanStand();
        numbersOfOneAndTwoDigits();
        numbersOfThreeDigits();
        numbersWithLeadingZeros();
        numbersWithoutDigits();
        countsOfOldLines();
        countsOfNewLines();
        countsOfBoth();
        linesInAnyOrder();
        hunksNeedNotFitOneAnother();
        papersThatEndTooEarly();
        aLineMoreThanTheFirstCountAllows();
        aLineMoreThanTheSecondCountAllows();
        linesEndWhenBothCountsAreThere();
        behindTwoCountsOfZeroNothingCanStand();
        oneCountOfZero();
        linesThatAreNoLetters();
        theFirstFailureCounts();
        theLargestPapers();
        readChangesNothing();
        readBeginsAgain();
        Check.end();
    }

    private static void reads(String paper, int due) {
        for (LinePatcher patcher : Check.newAndUsed()) {
            Check.setPaper(patcher, paper);
            Check.due("read of " + Check.shown(paper), patcher.read(), due);
        }
    }

    // "-1 when it is a patch (an empty one is, too)"
    private static void anEmptyPaperIsAPatch() {
        reads("", -1);
        LinePatcher patcher = new LinePatcher();
        Check.setPaper(patcher, "x");
        patcher.wipe();
        Check.due("read of a wiped paper", patcher.read(), -1);
    }

    // "at the first place (from 0) where a character stands that cannot stand there"
    private static void onlySomeCharactersCanStand() {
        String paper = "@1,1 2,1\n-a\n+b\n@0,1 0,1\n a\n";
        String[] canStand = {
            "@", DIGITS, "," + DIGITS, DIGITS, " " + DIGITS, DIGITS, "," + DIGITS, DIGITS,
            "\n" + DIGITS, " -+", LETTERS, "\n", "+", LETTERS, "\n",
            "@", DIGITS, ",", DIGITS, " " + DIGITS, DIGITS, ",", DIGITS,
            "\n" + DIGITS, " -+", LETTERS, "\n"};
        reads(paper, -1);
        for (int place = 0; place < canStand.length; place++) {
            for (char other = 0; other < 256; other++) {
                if (canStand[place].indexOf(other) < 0) {
                    reads(paper.substring(0, place) + other + paper.substring(place + 1), place);
                }
            }
        }
    }

    // "any numbers of at most two digits"
    private static void numbersOfOneAndTwoDigits() {
        for (int number = 0; number <= 99; number++) {
            reads("@" + number + ",1 0,1\n a\n", -1);
            reads("@0,1 " + number + ",1\n a\n", -1);
            if (number > 0) {
                reads("@0," + number + " 0,0\n" + "-a\n".repeat(number), -1);
                reads("@0,0 0," + number + "\n" + "+a\n".repeat(number), -1);
                reads("@0," + number + " 0," + number + "\n" + " a\n".repeat(number), -1);
            }
        }
    }

    private static void numbersOfThreeDigits() {
        reads("@100,1 0,1\n a\n", 3);
        reads("@999,1 0,1\n a\n", 3);
        reads("@0,100 0,1\n a\n", 5);
        reads("@0,1 123,1\n a\n", 7);
        reads("@0,1 0,100\n a\n", 9);
    }

    // "without leading zeros"
    private static void numbersWithLeadingZeros() {
        for (char second = '0'; second <= '9'; second++) {
            reads("@0" + second + ",1 0,1\n a\n", 2);
            reads("@0,0" + second + " 0,1\n a\n", 4);
            reads("@0,1 0" + second + ",1\n a\n", 6);
            reads("@0,1 0,0" + second + "\n a\n", 8);
        }
    }

    private static void numbersWithoutDigits() {
        reads("@,1 0,1\n a\n", 1);
        reads("@0, 0,1\n a\n", 3);
        reads("@0,1 ,1\n a\n", 5);
        reads("@0,1 0,\n a\n", 7);
        reads("@0,2 0,\n-a\n-b\n", 7);
        reads("@-1,1 0,1\n a\n", 1);
        reads("@+1,1 0,1\n a\n", 1);
        reads("@ 1,1 0,1\n a\n", 1);
    }

    // "each hunk with as many lines 32 and 45 together as its first count says"
    private static void countsOfOldLines() {
        reads("@0,2 0,0\n-a\n-b\n", -1);
        reads("@0,3 0,1\n-a\n b\n-c\n", -1);
        reads("@0,2 0,0\n-a\n", 12);
        reads("@0,2 0,0\n-a\n@0,1 0,0\n-b\n", 12);
        reads("@0,1 0,0\n-a\n-b\n", 12);
    }

    // "as many 32 and 43 together as its second one says"
    private static void countsOfNewLines() {
        reads("@0,0 0,2\n+a\n+b\n", -1);
        reads("@0,1 0,3\n+a\n b\n+c\n", -1);
        reads("@0,0 0,2\n+a\n", 12);
        reads("@0,0 0,2\n+a\n@0,0 0,1\n+b\n", 12);
        reads("@0,0 0,1\n+a\n+b\n", 12);
    }

    private static void countsOfBoth() {
        reads("@0,1 0,1\n a\n", -1);
        reads("@0,1 0,1\n-a\n+b\n", -1);
        reads("@0,1 0,1\n-a\n", 12);
        reads("@0,1 0,1\n+a\n", 12);
        reads("@0,1 0,1\n-a\n@0,1 0,0\n-a\n", 12);
        reads("@0,2 0,2\n a\n", 12);
        reads("@0,2 0,2\n a\n-b\n", 15);
    }

    // "in any order"
    private static void linesInAnyOrder() {
        String[] lines = {" a\n", "-b\n", "+c\n"};
        for (int first = 0; first < 3; first++) {
            for (int second = 0; second < 3; second++) {
                if (first != second) {
                    String third = lines[3 - first - second];
                    reads("@0,2 0,2\n" + lines[first] + lines[second] + third, -1);
                }
            }
        }
        reads("@10,2 20,2\n+b\n-a\n+c\n-d\n", -1);
    }

    // "hunks need not fit one another"
    private static void hunksNeedNotFitOneAnother() {
        String hunk = "@50,1 7,1\n a\n";
        reads(hunk + hunk, -1);
        reads(hunk + "@0,1 99,2\n b\n+c\n" + "@3,0 0,1\n+a\n" + hunk, -1);
    }

    // "or where the paper ends too early"
    private static void papersThatEndTooEarly() {
        String hunk = "@10,2 0,12\n a\n-b\n" + "+c\n".repeat(11);
        for (int length = 1; length < hunk.length(); length++) {
            reads(hunk.substring(0, length), length);
            reads(hunk + hunk.substring(0, length), hunk.length() + length);
        }
        reads(hunk, -1);
        reads(hunk + hunk, -1);
    }

    // "a line must not be one more than its counts allow"
    private static void aLineMoreThanTheFirstCountAllows() {
        reads("@0,0 0,1\n-a\n", 9);
        reads("@0,0 0,1\n a\n", 9);
        reads("@0,1 0,2\n-a\n-b\n", 12);
        reads("@0,1 0,2\n-a\n b\n", 12);
        reads("@0,1 0,2\n a\n-b\n", 12);
        reads("@0,1 0,2\n a\n b\n", 12);
        reads("@0,1 0,2\n a\n+b\n", -1);
    }

    private static void aLineMoreThanTheSecondCountAllows() {
        reads("@0,1 0,0\n+a\n", 9);
        reads("@0,1 0,0\n a\n", 9);
        reads("@0,2 0,1\n+a\n+b\n", 12);
        reads("@0,2 0,1\n+a\n b\n", 12);
        reads("@0,2 0,1\n a\n+b\n", 12);
        reads("@0,2 0,1\n a\n b\n", 12);
        reads("@0,2 0,1\n a\n-b\n", -1);
    }

    // "a hunk's lines end when both counts are there"
    private static void linesEndWhenBothCountsAreThere() {
        for (char behind = 0; behind < 256; behind++) {
            reads("@0,1 0,1\n a\n" + behind, behind == '@' ? 13 : 12);
            reads("@0,1 0,1\n+a\n-b\n" + behind + "c\n", behind == '@' ? 16 : 15);
        }
    }

    // "behind two counts that are 0 nothing can stand": not even the end of the head's line.
    private static void behindTwoCountsOfZeroNothingCanStand() {
        reads("@0,0 0,0", 8);
        for (char behind = 0; behind < 256; behind++) {
            reads("@0,0 0,0" + behind, 8);
            reads("@12,0 34,0" + behind + "+a\n", 10);
        }
        reads("@0,0 0,0\n@0,1 0,1\n a\n", 8);
        reads("@0,1 0,1\n a\n@0,0 0,0\n", 20);
    }

    // "at least one line": one count may be 0, and then a line of the other kind must follow.
    private static void oneCountOfZero() {
        reads("@0,0 0,1\n+z\n", -1);
        reads("@0,1 0,0\n-z\n", -1);
        reads("@0,0 0,10\n", 10);
        reads("@0,10 0,0\n", 10);
        reads("@0,0 0,1\n", 9);
    }

    private static void linesThatAreNoLetters() {
        for (char line = 0; line < 256; line++) {
            boolean isLetter = line >= 97 && line <= 122;
            reads("@0,1 0,0\n-" + line + "\n", isLetter ? -1 : 10);
            reads("@0,0 0,1\n+" + line + "\n", isLetter ? -1 : 10);
            reads("@0,1 0,1\n " + line + "\n", isLetter ? -1 : 10);
        }
    }

    // "It FAILS at the first place"
    private static void theFirstFailureCounts() {
        reads("x@", 0);
        reads("@0,1 0,0\n-a\nx@@@", 12);
        reads("@0,1 0,0\n-a\n@0,1 0,0\n-a\n@0,x", 27);
        reads("@0,1 0,0\n-A\n+b\n", 10);
        reads("@0,1 0,0\n-aa\n+b\n", 11);
    }

    private static void theLargestPapers() {
        reads("@0,99 0,99\n" + "-a\n".repeat(99) + "+b\n".repeat(99), -1);
        reads("@0,99 0,99\n" + "-a\n".repeat(99) + "+b\n".repeat(98), 11 + 3 * 197);
        reads("@0,99 0,99\n" + "-a\n".repeat(100), 11 + 3 * 99);
        reads("@0,99 0,99\n" + "+a\n".repeat(99) + "-a\n".repeat(100), 11 + 3 * 198);
        reads("@0,1 0,0\n-a\n".repeat(75), -1);
        reads("@0,1 0,0\n-a\n".repeat(74) + "@0,1 0,0\n-a?", 899);
        reads("@0,99 0,99\n" + " a\n".repeat(99) + "@0,99 0,99\n" + " a\n".repeat(99)
                + "@0,98 0,98\n" + " a\n".repeat(91), 900);
    }

    private static void readChangesNothing() {
        LinePatcher patcher = Check.withTexts("ab", "b");
        patcher.compare(0, 1, 0);
        Check.setPaper(patcher, "@0,1 0,0\n-a\n");
        Check.due("read", patcher.read(), -1);
        Check.due("read again", patcher.read(), -1);
        Check.due("the paper", Check.paperOf(patcher), "@0,1 0,0\n-a\n");
        Check.due("text 0", Check.textOf(patcher, 0), "ab");
        Check.due("match", patcher.match(1), 0);
        Check.due("type", patcher.type('x', 1), 13);
        Check.due("read of more", patcher.read(), 12);
    }

    private static void readBeginsAgain() {
        LinePatcher patcher = new LinePatcher();
        Check.setPaper(patcher, "@0,1 0,1\n aa");
        for (int time = 0; time < 3; time++) {
            Check.due("read of the same", patcher.read(), 11);
        }
        Check.setPaper(patcher, "@0,1 0,1\n a\n@0,1 0,1\n a\n");
        Check.due("read of a patch", patcher.read(), -1);
        Check.setPaper(patcher, "x@0,1 0,1\n a\n");
        Check.due("read of another", patcher.read(), 0);
        Check.due("apply", patcher.apply(0), LinePatcher.BAD);
    }
}
