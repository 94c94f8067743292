/** Promise 14: merge. */
public final class MergeTest {
    public static void main(String[] args) {
        oneSideChanged();
        bothSidesChanged();
        conflicts();
        aLineMatchedInOneTextAloneIsNotFirm();
        mergeReplacesTextThree();
        textsThatWouldBeTooLong();
        mergeLeavesTheRest();
        Check.end();
    }

    private static void merged(String base, String one, String two, int due, String then) {
        LinePatcher patcher = Check.withTexts(base, one, two, "old");
        String call = "merge of " + base + " " + one + " " + two;
        Check.due(call, patcher.merge(), due);
        Check.due(call, Check.textOf(patcher, 3), then);
        Check.due("text 0", Check.textOf(patcher, 0), base);
        Check.due("text 1", Check.textOf(patcher, 1), one);
        Check.due("text 2", Check.textOf(patcher, 2), two);
    }

    private static void oneSideChanged() {
        merged("", "", "", 0, "");
        merged("abc", "abc", "abc", 0, "abc");
        merged("abc", "axc", "abc", 0, "axc");
        merged("abc", "abc", "axc", 0, "axc");
        merged("abc", "ac", "abc", 0, "ac");
        merged("abc", "abc", "abcd", 0, "abcd");
        merged("", "ab", "", 0, "ab");
        merged("", "", "ab", 0, "ab");
        merged("abc", "", "abc", 0, "");
    }

    private static void bothSidesChanged() {
        merged("abcde", "xbcde", "abcdy", 0, "xbcdy");
        merged("abc", "axc", "axc", 0, "axc");
        merged("abc", "ac", "ac", 0, "ac");
        merged("", "ab", "ab", 0, "ab");
        merged("abcde", "abxde", "aybcde", 0, "aybxde");
    }

    private static void conflicts() {
        merged("abc", "axc", "ayc", 1, "a<x=y>c");
        merged("abc", "ac", "ayc", 1, "a<=y>c");
        merged("abc", "ayc", "ac", 1, "a<y=>c");
        merged("", "a", "b", 1, "<a=b>");
        merged("abc", "xbz", "ybw", 2, "<x=y>b<z=w>");
        merged("a", "ab", "ac", 1, "a<b=c>");
        merged("a", "ba", "bca", 1, "<b=bc>a");
        merged("abc", "pqr", "stu", 1, "<pqr=stu>");
    }

    private static void aLineMatchedInOneTextAloneIsNotFirm() {
        merged("ab", "a", "b", 1, "<a=b>");
        merged("abc", "bc", "ac", 1, "<b=a>c");
        merged("abcd", "acd", "abd", 1, "a<c=b>d");
    }

    private static void mergeReplacesTextThree() {
        LinePatcher patcher = Check.withTexts("a", "b", "c");
        Check.due("merge", patcher.merge(), 1);
        Check.due("merge again", patcher.merge(), 1);
        Check.due("text 3", Check.textOf(patcher, 3), "<b=c>");
        Check.setText(patcher, 2, "a");
        Check.due("merge without a conflict", patcher.merge(), 0);
        Check.due("text 3", Check.textOf(patcher, 3), "b");
        Check.due("compare", patcher.compare(3, 1, 0), 0);
    }

    private static void textsThatWouldBeTooLong() {
        merged("", "abcdefghijk", "lmnopqrstu", 1, "<abcdefghijk=lmnopqrstu>");
        merged("", "abcdefghijk", "lmnopqrstuv", LinePatcher.FULL, "old");
        String full = "abcdefghijklmnopqrstuvwx";
        merged(full, full, full, 0, full);
        merged("", full, full, 0, full);
        merged("", full, "z", LinePatcher.FULL, "old");
        merged("m", "abcdefghijklm", "mnopqrstuvwx", 0, full);
        merged("m", "aabcdefghijklm", "mnopqrstuvwx", LinePatcher.FULL, "old");
        merged("", full, "zyxwvutsrqponmlkjihgfedc", LinePatcher.FULL, "old");
    }

    private static void mergeLeavesTheRest() {
        LinePatcher patcher = Check.withTexts("ab", "b", "ab", "a");
        Check.setPaper(patcher, "paper");
        patcher.compare(0, 3, 0);
        Check.due("merge", patcher.merge(), 0);
        Check.due("matches", Check.matchesOf(patcher, 2), "0 .");
        Check.due("the paper", Check.paperOf(patcher), "paper");
        Check.due("text 3", Check.textOf(patcher, 3), "b");
    }
}
