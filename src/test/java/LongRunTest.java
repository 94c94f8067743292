/** "An object is used for at most 512 calls after it has been made": the last ones are as due. */
public final class LongRunTest {
    private static final int MOST_CALLS = 512;
    private static final String TURNED = "xwvutsrqponmlkjihgfedcba";

    public static void main(String[] args) {
        theDearestCallsUpToTheLast();
        thePaperFilledUpToTheLast();
        Check.end();
    }

    private static void theDearestCallsUpToTheLast() {
        LinePatcher patcher = Check.withTexts(Check.FULL_TEXT, TURNED, TURNED);
        patcher.compare(0, 1, 0);
        patcher.write(3);
        int calls = 11;
        while (calls < MOST_CALLS) {
            calls++;
            switch (calls % 7) {
                case 0:
                    Check.due("compare by SHORT", patcher.compare(0, 1, 0), 46);
                    break;
                case 1:
                    Check.due("compare by STANDING OUT", patcher.compare(0, 1, 1), 46);
                    break;
                case 2:
                    Check.due("write", patcher.write(3), 1);
                    break;
                case 3:
                    Check.due("read", patcher.read(), -1);
                    break;
                case 4:
                    Check.due("apply", patcher.apply(2), LinePatcher.NONE);
                    break;
                case 5:
                    Check.due("merge", patcher.merge(), 0);
                    break;
                default:
                    Check.due("match", patcher.match(23), 0);
                    break;
            }
        }
    }

    private static void thePaperFilledUpToTheLast() {
        LinePatcher patcher = new LinePatcher();
        for (int call = 1; call < MOST_CALLS; call++) {
            int due = 2 * call <= 900 ? 2 * call : LinePatcher.FULL;
            Check.due("type", patcher.type(Check.packed("ab"), 2), due);
        }
        Check.due("the last call", patcher.wipe(), 900);
    }
}
