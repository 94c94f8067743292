/** Promise 12: read. */
public final class ReadTest {
    public static void main(String[] args) {
        patches();
        wrongHeads();
        wrongNumbers();
        countsThatAreZero();
        wrongLines();
        linesBeyondTheCounts();
        papersThatEndTooEarly();
        theFirstFailureCounts();
        theLargestPapers();
        readChangesNothing();
        Check.end();
    }

    private static void reads(String paper, int due) {
        LinePatcher patcher = new LinePatcher();
        Check.setPaper(patcher, paper);
        Check.due("read of " + Check.shown(paper), patcher.read(), due);
    }

    private static void patches() {
        reads("", -1);
        reads("@0,1 0,0\n-a\n", -1);
        reads("@0,0 0,1\n+z\n", -1);
        reads("@99,1 98,1\n m\n", -1);
        reads("@10,2 20,2\n+b\n-a\n+c\n-d\n", -1);
        reads("@5,1 5,2\n+a\n b\n@0,1 90,0\n-a\n", -1);
    }

    private static void wrongHeads() {
        reads("x", 0);
        reads("\n", 0);
        reads("@,1 0,0\n-a\n", 1);
        reads("@-1,1 0,0\n-a\n", 1);
        reads("@0 1 0,0\n-a\n", 2);
        reads("@0,1,0,0\n-a\n", 4);
        reads("@0,1 0 0\n-a\n", 6);
        reads("@0,1 0,0 \n-a\n", 8);
        reads("@0,1  0,0\n-a\n", 5);
        reads("@0, 1 0,0\n-a\n", 3);
        reads("@0,1 0,\n-a\n", 7);
        reads("@@0,1 0,0\n-a\n", 1);
    }

    private static void wrongNumbers() {
        reads("@00,1 0,0\n-a\n", 2);
        reads("@01,1 0,0\n-a\n", 2);
        reads("@100,1 0,0\n-a\n", 3);
        reads("@0,01 0,0\n-a\n", 4);
        reads("@0,1 05,0\n-a\n", 6);
        reads("@0,1 123,0\n-a\n", 7);
        reads("@0,1 0,00\n-a\n", 8);
        reads("@0,1 0,100\n-a\n", 9);
        reads("@/,1 0,0\n-a\n", 1);
        reads("@:,1 0,0\n-a\n", 1);
        reads("@1:,1 0,0\n-a\n", 2);
    }

    private static void countsThatAreZero() {
        reads("@0,0 0,0\n", 8);
        reads("@0,0 0,0", 8);
        reads("@0,0 0,01", 8);
        reads("@12,0 34,0\n+a\n", 10);
        reads("@0,0 0,10\n", 10);
    }

    private static void wrongLines() {
        reads("@0,1 0,0\n*a\n", 9);
        reads("@0,1 0,0\na\n", 9);
        reads("@0,1 0,0\n\n", 9);
        reads("@0,1 0,0\n-A\n", 10);
        reads("@0,1 0,0\n-`\n", 10);
        reads("@0,1 0,0\n-{\n", 10);
        reads("@0,1 0,0\n-<\n", 10);
        reads("@0,1 0,0\n-\n", 10);
        reads("@0,1 0,0\n-\u00e1\n", 10);
        reads("@0,1 0,0\n-aa\n", 11);
        reads("@0,1 0,0\n-a@", 11);
    }

    private static void linesBeyondTheCounts() {
        reads("@0,1 0,0\n+a\n", 9);
        reads("@0,1 0,0\n a\n", 9);
        reads("@0,0 0,1\n-a\n", 9);
        reads("@0,0 0,1\n a\n", 9);
        reads("@0,2 0,1\n a\n b\n", 12);
        reads("@0,2 0,1\n a\n+b\n", 12);
        reads("@0,1 0,2\n a\n-b\n", 12);
        reads("@0,1 0,1\n a\n-b\n", 12);
        reads("@0,1 0,1\n a\n\n", 12);
        reads("@0,1 0,1\n-a\n@0,1 0,0\n-a\n", 12);
    }

    private static void papersThatEndTooEarly() {
        String whole = "@10,2 0,2\n a\n-b\n+c\n";
        for (int length = 1; length < whole.length(); length++) {
            reads(whole.substring(0, length), length);
        }
        reads(whole, -1);
        reads(whole + "@", whole.length() + 1);
    }

    private static void theFirstFailureCounts() {
        reads("@0,1 0,0\n-a\nx@@@", 12);
        reads("@0,1 0,0\n-a\n@0,1 0,0\n-a\n@0,x", 27);
    }

    private static void theLargestPapers() {
        reads("@0,99 0,99\n" + " a\n".repeat(99), -1);
        reads("@0,99 0,99\n" + "-a\n".repeat(99) + "+b\n".repeat(99), -1);
        reads("@0,99 0,99\n" + "-a\n".repeat(99) + "+b\n".repeat(98), 11 + 3 * 197);
        reads("@0,99 0,99\n" + "-a\n".repeat(100), 11 + 3 * 99);
        reads("@0,1 0,0\n-a\n".repeat(75), -1);
        reads("@0,99 0,99\n" + "-a\n".repeat(99) + "@0,99 0,99\n" + "+a\n".repeat(99)
                + "-a\n".repeat(94) + "+a", 11 + 3 * 99);
        reads("@0,99 0,99\n" + " a\n".repeat(99) + "@0,99 0,99\n" + " a\n".repeat(99)
                + "@0,98 0,98\n" + " a\n".repeat(91), 900);
    }

    private static void readChangesNothing() {
        LinePatcher patcher = Check.withTexts("ab", "b");
        patcher.compare(0, 1, 0);
        Check.setPaper(patcher, "@0,1 0,0\n-a\n");
        Check.due("read", patcher.read(), -1);
        Check.due("read again", patcher.read(), -1);
        Check.due("the paper", Check.paperOf(patcher), "@0,1 0,0\n-a\n");
        Check.due("text 0", Check.textOf(patcher, 0), "ab");
        Check.due("match", patcher.match(1), 0);
    }
}
