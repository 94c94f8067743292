/** All promises: long mixed runs of calls, whose answers are the model's. */
public final class ModelTest {
    private static final int RUNS = 20_000;
    // The document promises 512 calls; the long look at the end of a run needs some 200 of them.
    private static final int CALLS_BEFORE_LAST_LOOK = 200;
    private static final int MOST_CALLS = 512;
    private static final String[] HUNKS = {
        "@0,1 0,0\n-a\n", "@1,0 1,1\n+b\n", "@3,2 3,2\n a\n-b\n+c\n", "@2,1 2,2\n+c\n a\n",
        "@9,2 9,1\n-b\n b\n", "@0,0 0,0\n", "@12,3 0,3\n a\n b\n a\n"};

    private final LinePatcher patcher = new LinePatcher();
    private final Model model = new Model();
    private final StringBuilder calls = new StringBuilder();
    private int callCount;
    private final int letters;
    private long seed;

    private ModelTest(long seed) {
        this.seed = seed;
        letters = 1 + random(random(3) == 0 ? 26 : 5);
    }

    public static void main(String[] args) {
        for (int run = 0; run < RUNS && Check.allRight(); run++) {
            ModelTest test = new ModelTest(run);
            while (test.callCount < CALLS_BEFORE_LAST_LOOK && Check.allRight()) {
                test.callOnce();
            }
            test.lookAtAll();
            Check.due("calls within the promise", test.callCount <= MOST_CALLS ? 1 : 0, 1);
            if (!Check.allRight()) {
                System.out.println("in run " + run + ": " + test.calls);
            }
        }
        Check.end();
    }

    /** The same numbers in every run of the test. */
    private int random(int bound) {
        seed = seed * 6364136223846793005L + 1442695040888963407L;
        return (int) ((seed >>> 33) % bound);
    }

    private void due(String call, int got, int want) {
        callCount++;
        calls.append(call).append(' ');
        Check.due(call, got, want);
    }

    private void callOnce() {
        int text = random(40) == 0 ? random(9) - 3 : random(4);
        int other = random(40) == 0 ? random(9) - 3 : random(4);
        switch (random(14)) {
            case 0:
            case 1:
                addSome(text);
                break;
            case 2:
                changeText(text, other);
                break;
            case 3:
            case 4:
                int way = random(40) == 0 ? random(5) - 2 : random(2);
                due("compare(" + text + "," + other + "," + way + ")",
                        patcher.compare(text, other, way), model.compare(text, other, way));
                break;
            case 5:
                int i = random(30) - 3;
                due("match(" + i + ")", patcher.match(i), model.match(i));
                break;
            case 6:
            case 7:
                int context = random(40) == 0 ? random(9) - 3 : random(4);
                due("write(" + context + ")", patcher.write(context), model.write(context));
                break;
            case 8:
                if (random(2) == 0) {
                    typeSome();
                } else {
                    spoilPaper();
                }
                break;
            case 9:
                if (random(4) == 0) {
                    due("wipe()", patcher.wipe(), model.wipe());
                }
                break;
            case 10:
                due("read()", patcher.read(), model.read());
                break;
            case 11:
            case 12:
                due("apply(" + text + ")", patcher.apply(text), model.apply(text));
                break;
            default:
                due("merge()", patcher.merge(), model.merge());
                break;
        }
        for (int looks = 0; looks < 2; looks++) {
            lookAtOne();
        }
    }

    private void addSome(int text) {
        long lines = 0;
        int n = random(30) == 0 ? random(14) - 3 : 1 + random(8);
        for (int k = 0; k < 8; k++) {
            lines = lines << 8 | (random(200) == 0 ? random(256) : 'a' + random(letters));
        }
        addLines(text, lines, n);
    }

    private void addLines(int text, long lines, int n) {
        String call = "add(" + text + "," + lines + "," + n + ")";
        due(call, patcher.add(text, lines, n), model.add(text, lines, n));
    }

    /** Makes a text one like another: comparisons and merges of texts far apart tell little. */
    private void changeText(int text, int other) {
        due("clear(" + text + ")", patcher.clear(text), model.clear(text));
        for (int i = 0; i < model.size(other) && random(8) != 0; i++) {
            int line = random(5) == 0 ? 'a' + random(letters) : model.line(other, i);
            if (random(6) != 0) {
                addLines(text, line, 1);
            }
        }
    }

    private void typeSome() {
        typeAll(random(3) == 0 ? HUNKS[random(HUNKS.length)] : anyCharacters());
        if (random(10) == 0) {
            typeBytes((long) random(1 << 30) << 34 | random(1 << 30), random(14) - 3);
        }
    }

    private void typeAll(String characters) {
        for (int k = 0; k < characters.length(); k += 8) {
            String some = characters.substring(k, Math.min(k + 8, characters.length()));
            typeBytes(Check.packed(some), some.length());
        }
    }

    private void typeBytes(long bytes, int n) {
        due("type(" + bytes + "," + n + ")", patcher.type(bytes, n), model.type(bytes, n));
    }

    /** Types the paper again with one character less, more or changed. */
    private void spoilPaper() {
        StringBuilder paper = new StringBuilder();
        for (int i = 0; i < 900 && model.character(i) >= 0; i++) {
            paper.append((char) model.character(i));
        }
        int at = random(paper.length() + 1);
        int end = Math.min(paper.length(), at + random(2));
        paper.replace(at, end, random(3) == 0 ? "" : anyCharacters());
        due("wipe()", patcher.wipe(), model.wipe());
        typeAll(paper.toString());
        due("read()", patcher.read(), model.read());
    }

    private String anyCharacters() {
        StringBuilder some = new StringBuilder();
        String likely = "@0,1 2\n-+ab";
        for (int k = random(6); k > 0; k--) {
            some.append(likely.charAt(random(likely.length())));
        }
        return some.toString();
    }

    private void lookAtOne() {
        switch (random(4)) {
            case 0:
                lookAtSize(random(6) - 1);
                break;
            case 1:
                lookAtLine(random(6) - 1, random(26) - 1);
                break;
            case 2:
                lookAtMatch(random(26) - 1);
                break;
            default:
                lookAtCharacter(random(random(4) == 0 ? 902 : 60) - 1);
                break;
        }
    }

    private void lookAtAll() {
        for (int text = -1; text < 5; text++) {
            lookAtSize(text);
            for (int i = 0; i <= model.size(text); i++) {
                lookAtLine(text, i);
            }
        }
        for (int i = 0; i <= 24; i++) {
            lookAtMatch(i);
        }
        for (int i = 0; i < 900 && callCount < MOST_CALLS; i += i < 100 ? 1 : 23) {
            lookAtCharacter(i);
        }
    }

    private void lookAtSize(int text) {
        due("size(" + text + ")", patcher.size(text), model.size(text));
    }

    private void lookAtLine(int text, int i) {
        due("line(" + text + "," + i + ")", patcher.line(text, i), model.line(text, i));
    }

    private void lookAtMatch(int i) {
        due("match(" + i + ")", patcher.match(i), model.match(i));
    }

    private void lookAtCharacter(int i) {
        due("character(" + i + ")", patcher.character(i), model.character(i));
    }
}
