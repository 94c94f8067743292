/** Promise 14: merge. Each test quotes what it holds. */
public final class MergeTest {
    public static void main(String[] args) {
        emptyTexts();
        textsAreComparedByShort();
        aLineMatchedInBothIsFirm();
        aLineMatchedInOneAloneIsNotFirm();
        thePartOfTwoIfOneDidNotChange();
        thePartOfOneIfTwoDidNotChange();
        thePartOfOneIfBothChangedAlike();
        otherwiseAConflict();
        conflictsWithAnEmptyPart();
        partsAtTheBeginningAndTheEnd();
        partsThatAreAllEmpty();
        noOtherCallPutsInLinesThatAreNoLetters();
        mergeReplacesTextThree();
        mergeAnswersHowManyConflicts();
        mergeLeavesTheLatestComparison();
        mergeLeavesTextsAndPaper();
        mergeOf24Lines();
        mergeOfMoreThan24LinesIsFull();
        conflictSignsCountAsLines();
        textThreeStaysWhenFull();
        Check.end();
    }

    private static void merged(String base, String one, String two, int due, String then) {
        for (LinePatcher patcher : Check.newAndUsed()) {
            Check.setTexts(patcher, base, one, two, "old");
            String call = "merge of " + base + ", " + one + ", " + two;
            Check.due(call, patcher.merge(), due);
            Check.due(call, Check.textOf(patcher, 3), then);
        }
    }

    private static void full(String base, String one, String two) {
        merged(base, one, two, LinePatcher.FULL, "old");
    }

    private static void emptyTexts() {
        merged("", "", "", 0, "");
        merged("", "ab", "", 0, "ab");
        merged("", "", "ab", 0, "ab");
        merged("ab", "", "", 0, "");
        merged("ab", "ab", "", 0, "");
        merged("ab", "", "ab", 0, "");
    }

    // "text 0 is compared with 1, and with 2, by SHORT"
    private static void textsAreComparedByShort() {
        merged("ab", "b", "bb", 0, "bb");
        merged("a", "aa", "baa", 0, "baa");
        merged("a", "ba", "caa", 1, "<b=c>aa");
        merged("a", "baa", "ca", 1, "<b=c>aa");
    }

    // "A line of 0 that is matched in both is FIRM." "Firm lines stay."
    private static void aLineMatchedInBothIsFirm() {
        merged("abc", "abc", "abc", 0, "abc");
        merged("abcde", "xbcde", "abcdy", 0, "xbcdy");
        merged("abcde", "abxde", "aybcde", 0, "aybxde");
        merged("abc", "xbz", "ybw", 2, "<x=y>b<z=w>");
    }

    private static void aLineMatchedInOneAloneIsNotFirm() {
        merged("ab", "a", "b", 1, "<a=b>");
        merged("abc", "bc", "ac", 1, "<b=a>c");
        merged("abcd", "acd", "abd", 1, "a<c=b>d");
    }

    // "the part of 2 if that of 1 is equal to that of 0"
    private static void thePartOfTwoIfOneDidNotChange() {
        merged("abc", "abc", "axc", 0, "axc");
        merged("abc", "abc", "ac", 0, "ac");
        merged("abc", "abc", "abcd", 0, "abcd");
        merged("abc", "abc", "abxyc", 0, "abxyc");
    }

    // "otherwise that of 1 if that of 2 is equal to that of 0"
    private static void thePartOfOneIfTwoDidNotChange() {
        merged("abc", "axc", "abc", 0, "axc");
        merged("abc", "ac", "abc", 0, "ac");
        merged("abc", "zabc", "abc", 0, "zabc");
        merged("abc", "abxyc", "abc", 0, "abxyc");
    }

    // "or of 1"
    private static void thePartOfOneIfBothChangedAlike() {
        merged("abc", "axc", "axc", 0, "axc");
        merged("abc", "ac", "ac", 0, "ac");
        merged("abc", "abcde", "abcde", 0, "abcde");
        merged("", "ab", "ab", 0, "ab");
    }

    // "otherwise a CONFLICT: 60, the part of 1, 61, the part of 2, 62, each as a line"
    private static void otherwiseAConflict() {
        LinePatcher patcher = Check.withTexts("abc", "axyc", "azc");
        Check.due("merge", patcher.merge(), 1);
        int[] due = {'a', 60, 'x', 'y', 61, 'z', 62, 'c', LinePatcher.NONE};
        for (int i = 0; i < due.length; i++) {
            Check.due("line " + i, patcher.line(3, i), due[i]);
        }
        merged("abc", "pqr", "stu", 1, "<pqr=stu>");
        merged("abc", "axc", "axyc", 1, "a<x=xy>c");
        merged("abc", "axyc", "axc", 1, "a<xy=x>c");
        merged("abc", "axyc", "ayxc", 1, "a<xy=yx>c");
    }

    private static void conflictsWithAnEmptyPart() {
        merged("abc", "ac", "ayc", 1, "a<=y>c");
        merged("abc", "ayc", "ac", 1, "a<y=>c");
        merged("a", "", "b", 1, "<=b>");
        merged("a", "b", "", 1, "<b=>");
        merged("", "a", "b", 1, "<a=b>");
    }

    // "Between two neighbouring firm lines (or the beginning, or the end)"
    private static void partsAtTheBeginningAndTheEnd() {
        merged("a", "ba", "bca", 1, "<b=bc>a");
        merged("a", "ab", "ac", 1, "a<b=c>");
        merged("a", "xa", "ay", 0, "xay");
        merged("ab", "b", "a", 1, "<b=a>");
    }

    private static void partsThatAreAllEmpty() {
        merged("abab", "abab", "abab", 0, "abab");
        merged("aaaa", "aaaa", "aaaab", 0, "aaaab");
    }

    // "the only lines that are no letters, and merge() alone puts them into text 3": so merge()'s
    // "NONE: one of 0, 1, 2 has a line that is no letter" cannot come about.
    private static void noOtherCallPutsInLinesThatAreNoLetters() {
        LinePatcher patcher = new LinePatcher();
        for (int sign = 60; sign <= 62; sign++) {
            for (int text = 0; text < 4; text++) {
                Check.due("add", patcher.add(text, sign, 1), LinePatcher.BAD);
                Check.setPaper(patcher, "@0,0 0,1\n+" + (char) sign + "\n");
                Check.due("apply", patcher.apply(text), LinePatcher.BAD);
                Check.due("size", patcher.size(text), 0);
            }
        }
    }

    // "into text 3, in place of what was there"
    private static void mergeReplacesTextThree() {
        LinePatcher patcher = Check.withTexts("a", "b", "c", Check.FULL_TEXT);
        for (int time = 0; time < 2; time++) {
            Check.due("merge", patcher.merge(), 1);
            Check.due("text 3", Check.textOf(patcher, 3), "<b=c>");
        }
        Check.setText(patcher, 2, "a");
        Check.due("merge without a conflict", patcher.merge(), 0);
        Check.due("text 3", Check.textOf(patcher, 3), "b");
        patcher.clear(1);
        Check.due("merge to nothing", patcher.merge(), 0);
        Check.due("text 3", Check.textOf(patcher, 3), "");
    }

    // "how many conflicts there are"
    private static void mergeAnswersHowManyConflicts() {
        merged("abcd", "abcd", "abcd", 0, "abcd");
        merged("abcd", "axcd", "aycd", 1, "a<x=y>cd");
        merged("abcde", "axcve", "aycwe", 2, "a<x=y>c<v=w>e");
        merged("mn", "amcnf", "bmdng", 3, "<a=b>m<c=d>n<f=g>");
        merged("mnop", "mxnxoxp", "mynyoyp", 3, "m<x=y>n<x=y>o<x=y>p");
        merged("mno", "xmxnxox", "ymynyoy", 4, "<x=y>m<x=y>n<x=y>o<x=y>");
    }

    // "(the latest comparison stays)"
    private static void mergeLeavesTheLatestComparison() {
        LinePatcher patcher = Check.withTexts("ab", "b", "abx", "a");
        patcher.compare(0, 3, 0);
        Check.due("merge", patcher.merge(), 0);
        Check.due("text 3", Check.textOf(patcher, 3), "bx");
        Check.due("matches", Check.matchesOf(patcher, 2), "0 .");
        Check.due("write", patcher.write(0), 1);
        Check.due("the paper", Check.paperOf(patcher), "@1,1 1,0\n-b\n");
        LinePatcher other = Check.withTexts("ab", "ab", "ab");
        other.merge();
        Check.due("nothing was compared", other.write(0), LinePatcher.NONE);
    }

    private static void mergeLeavesTextsAndPaper() {
        LinePatcher patcher = Check.withTexts("abc", "axc", "ayc");
        Check.setPaper(patcher, "paper");
        Check.due("merge", patcher.merge(), 1);
        Check.due("text 0", Check.textOf(patcher, 0), "abc");
        Check.due("text 1", Check.textOf(patcher, 1), "axc");
        Check.due("text 2", Check.textOf(patcher, 2), "ayc");
        Check.due("the paper", Check.paperOf(patcher), "paper");
    }

    private static void mergeOf24Lines() {
        String all = Check.FULL_TEXT;
        merged(all, all, all, 0, all);
        merged("", all, all, 0, all);
        merged("", all, "", 0, all);
        merged("", "", all, 0, all);
        merged(all, "", all, 0, "");
        merged("m", "abcdefghijklm", "mnopqrstuvwx", 0, all);
    }

    // "FULL: it would have more than 24 lines"
    private static void mergeOfMoreThan24LinesIsFull() {
        String all = Check.FULL_TEXT;
        full("m", "zabcdefghijklm", "mnopqrstuvwx");
        full("m", "abcdefghijklm", "mnopqrstuvwxz");
        full("", all, "z");
        full("", "z", all);
        full("", all, "zyxwvutsrqponmlkjihgfedc");
        full("mmmmmmmmmmmm", "mamamamamamamamamamamama", "bmbmbmbmbmbmbmbmbmbmbmbm");
    }

    private static void conflictSignsCountAsLines() {
        merged("", "abcdefghijk", "lmnopqrstu", 1, "<abcdefghijk=lmnopqrstu>");
        full("", "abcdefghijk", "lmnopqrstuv");
        merged("a", "", "bcdefghijklmnopqrstuv", 1, "<=bcdefghijklmnopqrstuv>");
        full("a", "", "bcdefghijklmnopqrstuvw");
        merged("a", "abcdefghijklmnopqrst", "az", 1, "a<bcdefghijklmnopqrst=z>");
        full("a", "abcdefghijklmnopqrstu", "az");
    }

    // "and then text 3 stays"
    private static void textThreeStaysWhenFull() {
        LinePatcher patcher = Check.withTexts("", "a", "b");
        Check.due("merge", patcher.merge(), 1);
        Check.setText(patcher, 1, Check.FULL_TEXT);
        Check.due("merge of too much", patcher.merge(), LinePatcher.FULL);
        Check.due("text 3", Check.textOf(patcher, 3), "<a=b>");
        Check.due("text 1", Check.textOf(patcher, 1), Check.FULL_TEXT);
        Check.setText(patcher, 1, "c");
        Check.due("merge after", patcher.merge(), 1);
        Check.due("text 3", Check.textOf(patcher, 3), "<c=b>");
    }
}
