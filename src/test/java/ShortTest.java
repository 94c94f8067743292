/** The comparison by SHORT (way 0). Each test quotes what it holds. */
public final class ShortTest {
    public static void main(String[] args) {
        bothRangesAreEmpty();
        oneRangeIsEmpty();
        oneRangeEndsBeforeTheOther();
        equalLinesAreMatchedAtOnce();
        theGreatestNumberIsMatched();
        theFirstTextGoesOnIfBothAreAsGood();
        theSecondTextGoesOnIfItIsBetter();
        fullTexts();
        Check.end();
    }

    private static void compared(String x, String y, int changed, String matches) {
        Check.compared(x, y, 0, changed, matches);
    }

    private static void bothRangesAreEmpty() {
        compared("", "", 0, "");
    }

    private static void oneRangeIsEmpty() {
        compared("", "a", 1, "");
        compared("", "abc", 3, "");
        compared("", Check.FULL_TEXT, 24, "");
        compared("a", "", 1, ".");
        compared("abc", "", 3, ". . .");
    }

    // "as long as there is something in both"
    private static void oneRangeEndsBeforeTheOther() {
        compared("a", "abc", 2, "0");
        compared("abc", "a", 2, "0 . .");
        compared("ab", "b", 1, ". 0");
        compared("b", "ab", 1, "1");
    }

    // "if line i of x and line j of y are equal, they are matched, and both go on"
    private static void equalLinesAreMatchedAtOnce() {
        compared("a", "a", 0, "0");
        compared("aa", "a", 1, "0 .");
        compared("a", "aa", 1, "0");
        compared("aab", "ab", 1, "0 . 1");
        compared("xa", "yaa", 3, ". 1");
    }

    // "the greatest number of lines of what is left from i and from j on that can be matched"
    private static void theGreatestNumberIsMatched() {
        compared("abc", "cab", 2, "1 2 .");
        compared("abcabba", "cbabac", 5, ". . 0 . 1 3 4");
        compared("caaazd", "ezaaaf", 6, ". 2 3 4 . .");
    }

    // "if L(i + 1, j) is at least L(i, j + 1), i goes on"
    private static void theFirstTextGoesOnIfBothAreAsGood() {
        compared("ab", "ba", 2, ". 0");
        compared("aa", "ba", 2, ". 1");
        compared("ab", "bb", 2, ". 0");
        compared("abcd", "cdab", 4, ". . 0 1");
    }

    // "else j"
    private static void theSecondTextGoesOnIfItIsBetter() {
        compared("aab", "baa", 2, "1 2 .");
        compared("a", "bca", 2, "2");
    }

    private static void fullTexts() {
        String all = Check.FULL_TEXT;
        String turned = new StringBuilder(all).reverse().toString();
        compared(all, turned, 46, ". . . . . . . . . . . . . . . . . . . . . . . 0");
        compared(all, all, 0, "0 1 2 3 4 5 6 7 8 9 10 11 12 13 14 15 16 17 18 19 20 21 22 23");
        compared(all, "z".repeat(24), 48, ". . . . . . . . . . . . . . . . . . . . . . . .");
        compared(all, "x", 23, ". . . . . . . . . . . . . . . . . . . . . . . 0");
        compared("x", all, 23, "23");
    }
}
