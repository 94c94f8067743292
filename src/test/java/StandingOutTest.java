/** The comparison by STANDING OUT (way 1). Each test quotes what it holds. */
public final class StandingOutTest {
    public static void main(String[] args) {
        bothRangesAreEmpty();
        oneRangeIsEmpty();
        beginningsAreMatchedFirst();
        endsAreMatchedOfWhatIsLeft();
        aPairStandsOnceInWhatIsLeftOfX();
        aPairStandsOnceInWhatIsLeftOfY();
        linesThatWereMatchedDoNotCountForPairs();
        withoutAPairItIsShort();
        pairsGoBeforeTheGreatestNumber();
        theLastPairOfTheGreatestRank();
        theLastPairBeforeWithOneRankLess();
        whatLiesBeforeTheAnchors();
        whatLiesBetweenTheAnchors();
        whatLiesBehindTheAnchors();
        rangesRoundTheAnchorsThatAreEmpty();
        standingOutAgainRoundTheAnchors();
        standingOutAgainAndAgain();
        fullTexts();
        Check.end();
    }

    private static void compared(String x, String y, int changed, String matches) {
        Check.compared(x, y, 1, changed, matches);
    }

    private static void bothRangesAreEmpty() {
        compared("", "", 0, "");
    }

    private static void oneRangeIsEmpty() {
        compared("", "a", 1, "");
        compared("", Check.FULL_TEXT, 24, "");
        compared("a", "", 1, ".");
        compared("abc", "", 3, ". . .");
    }

    // "first lines are matched with one another from the beginnings on as long as they are equal"
    private static void beginningsAreMatchedFirst() {
        compared("a", "aa", 1, "0");
        compared("aa", "a", 1, "0 .");
        compared("a", "ab", 1, "0");
        compared("ab", "a", 1, "0 .");
        compared("a", "aba", 2, "0");
        compared("ab", "abab", 2, "0 1");
        compared("abab", "ab", 2, "0 1 . .");
        compared("aab", "ab", 1, "0 . 1");
    }

    // "then from the ends on backward (what is left) likewise"
    private static void endsAreMatchedOfWhatIsLeft() {
        compared("a", "baa", 2, "2");
        compared("xa", "yaa", 3, ". 2");
        compared("ab", "bb", 2, ". 1");
        compared("abb", "b", 2, ". . 0");
        compared("aa", "aaa", 1, "0 1");
        compared("aaa", "aa", 1, "0 1 .");
        compared("abxab", "abyyab", 3, "0 1 . 4 5");
    }

    // "a line that stands once in what is left of x"
    private static void aPairStandsOnceInWhatIsLeftOfX() {
        compared("aa", "bab", 3, ". 1");
        compared("abb", "ba", 3, "1 . .");
    }

    // "and once in what is left of y"
    private static void aPairStandsOnceInWhatIsLeftOfY() {
        compared("ab", "bba", 3, "2 .");
        compared("ab", "baba", 2, "1 2");
    }

    private static void linesThatWereMatchedDoNotCountForPairs() {
        compared("aba", "aab", 2, "0 . 1");
        compared("abb", "bab", 2, ". 0 2");
    }

    // "If there is no pair, what is left is compared by SHORT."
    private static void withoutAPairItIsShort() {
        compared("ab", "cd", 4, ". .");
        compared("a", "baab", 3, "1");
        compared("aa", "bab", 3, ". 1");
        compared("caad", "eaaaf", 5, ". 1 2 .");
        compared("abab", "baba", 2, ". 0 1 2");
    }

    // The pair z crosses the three lines that stand more than once.
    private static void pairsGoBeforeTheGreatestNumber() {
        compared("caaazd", "ezaaaf", 10, ". . . . 1 .");
    }

    // "the last pair of the greatest rank"
    private static void theLastPairOfTheGreatestRank() {
        compared("ab", "ba", 2, ". 0");
        compared("abcd", "cdab", 4, ". . 0 1");
        compared("abc", "cab", 2, "1 2 .");
        compared("abcx", "cbay", 6, ". . 0 .");
    }

    // "then always the last pair before it whose rank is 1 less"
    private static void theLastPairBeforeWithOneRankLess() {
        compared("abc", "bacd", 3, ". 0 2");
        compared("abcx", "bacy", 4, ". 0 2 .");
        compared("abcb", "bac", 3, "1 . 2 .");
        compared("abcdex", "eabdcy", 6, "1 2 . 3 . .");
    }

    // "what lies before [...] them"
    private static void whatLiesBeforeTheAnchors() {
        compared("abbc", "bcb", 3, ". . 0 1");
        compared("aba", "caab", 3, "2 3 .");
    }

    // "[what lies] between [...] them": here b lies against e, b, b, whose end goes first.
    private static void whatLiesBetweenTheAnchors() {
        compared("abcd", "daebbc", 4, "1 4 5 .");
        compared("abcde", "bccd", 3, ". 0 1 3 .");
    }

    // "[what lies] behind them"
    private static void whatLiesBehindTheAnchors() {
        compared("abc", "baccb", 4, "1 4 .");
        compared("abac", "bcca", 4, ". 0 3 .");
        compared("abcc", "bcd", 3, ". 0 1 .");
    }

    private static void rangesRoundTheAnchorsThatAreEmpty() {
        compared("abc", "dabce", 2, "1 2 3");
        compared("dabce", "abc", 2, ". 0 1 2 .");
        compared("xabk", "yabl", 4, ". 1 2 .");
        compared("xaabk", "yabl", 5, ". . 1 2 .");
    }

    // "is compared by STANDING OUT again": its beginnings, its ends, and its own pairs.
    private static void standingOutAgainRoundTheAnchors() {
        compared("abca", "bbc", 3, ". 1 2 .");
        compared("abbcd", "bc", 3, ". . 0 1 .");
        compared("abc", "bbaca", 4, "2 . 3");
        compared("abacc", "bca", 4, ". 0 2 . .");
        compared("caaawdzwk", "ewaaafzlw", 12, ". . . . 1 . 6 8 .");
    }

    private static void standingOutAgainAndAgain() {
        compared("abcdda", "edbdcac", 7, ". 2 4 . . 5");
        compared("abbcbd", "bacaadc", 7, "1 . . 2 . 5");
    }

    private static void fullTexts() {
        String all = Check.FULL_TEXT;
        String turned = new StringBuilder(all).reverse().toString();
        compared(all, turned, 46, ". . . . . . . . . . . . . . . . . . . . . . . 0");
        compared(all, all, 0, "0 1 2 3 4 5 6 7 8 9 10 11 12 13 14 15 16 17 18 19 20 21 22 23");
        compared(all, "abcdefghijklmnopqrstuvwz", 2,
                "0 1 2 3 4 5 6 7 8 9 10 11 12 13 14 15 16 17 18 19 20 21 22 .");
        compared(all, "zbcdefghijklmnopqrstuvwx", 2,
                ". 1 2 3 4 5 6 7 8 9 10 11 12 13 14 15 16 17 18 19 20 21 22 23");
        compared("yabcdefghijklmnopqrstuvw", "abcdefghijklmnopqrstuvwz", 2,
                ". 0 1 2 3 4 5 6 7 8 9 10 11 12 13 14 15 16 17 18 19 20 21 22");
        compared(all, "z".repeat(24), 48, ". . . . . . . . . . . . . . . . . . . . . . . .");
    }
}
