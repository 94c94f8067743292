/**
 * Four texts of lines, the comparison of two of them, the patch that tells it, and the merge of
 * two texts over a third one.
 *
 * <p>Every row that a call works on is made once, in a constructor, and used again by all calls:
 * a call makes no object.
 */
public final class LinePatcher {
    public static final int BAD = -1;
    public static final int FULL = -2;
    public static final int NONE = -3;

    private static final int TEXTS = 4;
    private static final int MERGED_TEXT = 3;
    private static final int MOST_LINES = 24;
    private static final int MOST_CHARACTERS = 900;
    private static final int MOST_BYTES = 8;
    private static final int MOST_CONTEXT = 3;
    private static final int SHORT = 0;
    private static final int STANDING_OUT = 1;

    private static final int HUNK_SIGN = 64;
    private static final int COMMA = 44;
    private static final int SPACE = 32;
    private static final int LINE_END = 10;
    private static final int KEPT_SIGN = 32;
    private static final int TAKEN_OUT_SIGN = 45;
    private static final int PUT_IN_SIGN = 43;
    private static final int CONFLICT_BEGIN = 60;
    private static final int CONFLICT_MIDDLE = 61;
    private static final int CONFLICT_END = 62;

    /** What read() answers for a paper that is a patch. */
    private static final int NO_FAILURE = -1;

    private final Text[] texts = new Text[TEXTS];
    private final Comparison latest = new Comparison();
    private boolean compared;
    private final Shortest shortest = new Shortest();
    private final StandingOut standingOut = new StandingOut(shortest);
    private final Paper paper = new Paper();
    private final PatchWriter writer = new PatchWriter(latest, paper);
    private final PatchReader reader = new PatchReader(paper);
    private final PatchFitter fitter = new PatchFitter(reader);
    private final Merger merger = new Merger(shortest);

    public LinePatcher() {
        for (int text = 0; text < TEXTS; text++) {
            texts[text] = new Text();
        }
    }

    public int add(int text, long lines, int n) {
        if (!isText(text) || n < 1 || n > MOST_BYTES || !areLetters(lines, n)) {
            return BAD;
        }
        if (texts[text].count + n > MOST_LINES) {
            return FULL;
        }
        for (int left = n - 1; left >= 0; left--) {
            texts[text].append(byteOf(lines, left));
        }
        return texts[text].count;
    }

    public int clear(int text) {
        if (!isText(text)) {
            return BAD;
        }
        int had = texts[text].count;
        texts[text].count = 0;
        return had;
    }

    public int size(int text) {
        return isText(text) ? texts[text].count : BAD;
    }

    public int line(int text, int i) {
        if (!isText(text)) {
            return BAD;
        }
        return i >= 0 && i < texts[text].count ? texts[text].lines[i] : NONE;
    }

    public int compare(int x, int y, int way) {
        if (!isText(x) || !isText(y) || (way != SHORT && way != STANDING_OUT)) {
            return BAD;
        }
        if (!texts[x].hasOnlyLetters() || !texts[y].hasOnlyLetters()) {
            return NONE;
        }
        latest.begin(texts[x], texts[y]);
        if (way == SHORT) {
            shortest.matchTexts(latest);
        } else {
            standingOut.matchTexts(latest);
        }
        compared = true;
        return latest.linesChanged();
    }

    public int match(int i) {
        return compared ? latest.partnerOf(i) : NONE;
    }

    public int write(int context) {
        if (context < 0 || context > MOST_CONTEXT) {
            return BAD;
        }
        return compared ? writer.writePatch(context) : NONE;
    }

    public int type(long characters, int n) {
        if (n < 1 || n > MOST_BYTES) {
            return BAD;
        }
        if (paper.length + n > MOST_CHARACTERS) {
            return FULL;
        }
        for (int left = n - 1; left >= 0; left--) {
            paper.append(byteOf(characters, left));
        }
        return paper.length;
    }

    public int wipe() {
        int had = paper.length;
        paper.length = 0;
        return had;
    }

    public int character(int i) {
        return i >= 0 && i < paper.length ? paper.characters[i] : NONE;
    }

    public int read() {
        return reader.placeOfFailure();
    }

    public int apply(int text) {
        if (!isText(text) || reader.placeOfFailure() != NO_FAILURE) {
            return BAD;
        }
        return fitter.patch(texts[text]);
    }

    public int merge() {
        for (int text = 0; text < MERGED_TEXT; text++) {
            if (!texts[text].hasOnlyLetters()) {
                return NONE;
            }
        }
        int conflicts = merger.bringTogether(texts[0], texts[1], texts[2]);
        return merger.handOver(texts[MERGED_TEXT]) ? conflicts : FULL;
    }

    private static boolean isText(int text) {
        return text >= 0 && text < TEXTS;
    }

    private static boolean areLetters(long lines, int n) {
        for (int left = 0; left < n; left++) {
            if (!isLetter(byteOf(lines, left))) {
                return false;
            }
        }
        return true;
    }

    private static boolean isLetter(int character) {
        return character >= 'a' && character <= 'z';
    }

    /** The byte that has so many lower bytes behind it. */
    private static int byteOf(long bytes, int lower) {
        return (int) ((bytes >>> (8 * lower)) & 255L);
    }

    /** A row of lines. */
    private static final class Text {
        final int[] lines = new int[MOST_LINES];
        int count;

        void append(int line) {
            if (count < MOST_LINES) {
                lines[count] = line;
                count++;
            }
        }

        void appendPart(Text other, int from, int to) {
            for (int i = from; i < to; i++) {
                append(other.lines[i]);
            }
        }

        void become(Text other) {
            count = 0;
            appendPart(other, 0, other.count);
        }

        boolean hasOnlyLetters() {
            for (int i = 0; i < count; i++) {
                if (!isLetter(lines[i])) {
                    return false;
                }
            }
            return true;
        }

        /** The place of a line in a range, or NONE if it stands there never or more than once. */
        int onlyPlace(int line, int from, int to) {
            int place = NONE;
            for (int i = from; i < to; i++) {
                if (lines[i] == line) {
                    if (place != NONE) {
                        return NONE;
                    }
                    place = i;
                }
            }
            return place;
        }
    }

    /** Two texts as they were when they were compared, and which of their lines were matched. */
    private static final class Comparison {
        final Text x = new Text();
        final Text y = new Text();
        private final int[] partners = new int[MOST_LINES];
        private int matched;

        void begin(Text newX, Text newY) {
            x.become(newX);
            y.become(newY);
            matched = 0;
            for (int i = 0; i < MOST_LINES; i++) {
                partners[i] = NONE;
            }
        }

        void pair(int i, int j) {
            partners[i] = j;
            matched++;
        }

        boolean areEqual(int i, int j) {
            return x.lines[i] == y.lines[j];
        }

        int partnerOf(int i) {
            return i >= 0 && i < x.count ? partners[i] : NONE;
        }

        int linesChanged() {
            return x.count + y.count - 2 * matched;
        }
    }

    /** A range of x and the range of y that it is compared with or changed into. */
    private static final class Range {
        int x;
        int xEnd;
        int y;
        int yEnd;

        void span(int newX, int newXEnd, int newY, int newYEnd) {
            x = newX;
            xEnd = newXEnd;
            y = newY;
            yEnd = newYEnd;
        }
    }

    /** Compares by SHORT. */
    private static final class Shortest {
        private final int[][] most = new int[MOST_LINES + 1][MOST_LINES + 1];
        private final Range whole = new Range();

        void matchTexts(Comparison comparison) {
            whole.span(0, comparison.x.count, 0, comparison.y.count);
            matchRange(comparison, whole);
        }

        void matchRange(Comparison comparison, Range range) {
            countMost(comparison, range);
            int i = range.x;
            int j = range.y;
            while (i < range.xEnd && j < range.yEnd) {
                if (comparison.areEqual(i, j)) {
                    comparison.pair(i, j);
                    i++;
                    j++;
                } else if (most[i + 1][j] >= most[i][j + 1]) {
                    i++;
                } else {
                    j++;
                }
            }
        }

        private void countMost(Comparison comparison, Range range) {
            for (int i = range.xEnd; i >= range.x; i--) {
                for (int j = range.yEnd; j >= range.y; j--) {
                    if (i == range.xEnd || j == range.yEnd) {
                        most[i][j] = 0;
                    } else if (comparison.areEqual(i, j)) {
                        most[i][j] = most[i + 1][j + 1] + 1;
                    } else {
                        most[i][j] = Math.max(most[i + 1][j], most[i][j + 1]);
                    }
                }
            }
        }
    }

    /**
     * Compares by STANDING OUT. The ranges round the anchors wait in a row instead of being gone
     * into at once: what is matched in one does not depend on the others.
     */
    private static final class StandingOut {
        // The whole, and for each anchor at most the range behind it and the one before it.
        private static final int MOST_RANGES = 1 + 2 * MOST_LINES;

        private final Shortest shortest;
        private final Range[] ranges = new Range[MOST_RANGES];
        private int rangeCount;
        private final int[] pairX = new int[MOST_LINES];
        private final int[] pairY = new int[MOST_LINES];
        private final int[] ranks = new int[MOST_LINES];
        private int pairCount;

        StandingOut(Shortest shortest) {
            this.shortest = shortest;
            for (int i = 0; i < MOST_RANGES; i++) {
                ranges[i] = new Range();
            }
        }

        void matchTexts(Comparison comparison) {
            rangeCount = 0;
            keepForLater(0, comparison.x.count, 0, comparison.y.count);
            for (int next = 0; next < rangeCount && next < MOST_RANGES; next++) {
                matchRange(comparison, ranges[next]);
            }
        }

        private void keepForLater(int x, int xEnd, int y, int yEnd) {
            if (x < xEnd && y < yEnd && rangeCount < MOST_RANGES) {
                ranges[rangeCount].span(x, xEnd, y, yEnd);
                rangeCount++;
            }
        }

        private void matchRange(Comparison comparison, Range range) {
            matchBeginning(comparison, range);
            matchEnd(comparison, range);
            findPairs(comparison, range);
            if (pairCount == 0) {
                shortest.matchRange(comparison, range);
            } else {
                matchAnchors(comparison, range, rankPairs());
            }
        }

        private void matchBeginning(Comparison comparison, Range range) {
            while (range.x < range.xEnd && range.y < range.yEnd
                    && comparison.areEqual(range.x, range.y)) {
                comparison.pair(range.x, range.y);
                range.x++;
                range.y++;
            }
        }

        private void matchEnd(Comparison comparison, Range range) {
            while (range.x < range.xEnd && range.y < range.yEnd
                    && comparison.areEqual(range.xEnd - 1, range.yEnd - 1)) {
                range.xEnd--;
                range.yEnd--;
                comparison.pair(range.xEnd, range.yEnd);
            }
        }

        private void findPairs(Comparison comparison, Range range) {
            pairCount = 0;
            for (int i = range.x; i < range.xEnd; i++) {
                int line = comparison.x.lines[i];
                int j = comparison.y.onlyPlace(line, range.y, range.yEnd);
                if (j != NONE && comparison.x.onlyPlace(line, range.x, range.xEnd) == i) {
                    pairX[pairCount] = i;
                    pairY[pairCount] = j;
                    pairCount++;
                }
            }
        }

        /** Ranks all pairs and answers the greatest rank. */
        private int rankPairs() {
            int greatest = 0;
            for (int pair = 0; pair < pairCount; pair++) {
                int before = 0;
                for (int earlier = 0; earlier < pair; earlier++) {
                    if (pairY[earlier] < pairY[pair]) {
                        before = Math.max(before, ranks[earlier]);
                    }
                }
                ranks[pair] = before + 1;
                greatest = Math.max(greatest, ranks[pair]);
            }
            return greatest;
        }

        private void matchAnchors(Comparison comparison, Range range, int greatest) {
            int wanted = greatest;
            int xEnd = range.xEnd;
            int yEnd = range.yEnd;
            for (int pair = pairCount - 1; pair >= 0; pair--) {
                if (ranks[pair] == wanted) {
                    comparison.pair(pairX[pair], pairY[pair]);
                    keepForLater(pairX[pair] + 1, xEnd, pairY[pair] + 1, yEnd);
                    xEnd = pairX[pair];
                    yEnd = pairY[pair];
                    wanted--;
                }
            }
            keepForLater(range.x, xEnd, range.y, yEnd);
        }
    }

    /** The row of characters that a patch is kept on. */
    private static final class Paper {
        final int[] characters = new int[MOST_CHARACTERS];
        int length;

        void append(int character) {
            if (length < MOST_CHARACTERS) {
                characters[length] = character;
                length++;
            }
        }

        void appendNumber(int number) {
            if (number >= 10) {
                append('0' + number / 10 % 10);
            }
            append('0' + number % 10);
        }

        void appendLine(int sign, int line) {
            append(sign);
            append(line);
            append(LINE_END);
        }
    }

    /** Writes the patch of a comparison. */
    private static final class PatchWriter {
        // A matched line lies between two changes.
        private static final int MOST_CHANGES = MOST_LINES + 1;

        private final Comparison comparison;
        private final Paper paper;
        private final Range[] changes = new Range[MOST_CHANGES];
        private int changeCount;

        PatchWriter(Comparison comparison, Paper paper) {
            this.comparison = comparison;
            this.paper = paper;
            for (int i = 0; i < MOST_CHANGES; i++) {
                changes[i] = new Range();
            }
        }

        /** Writes all hunks in place of what is on the paper, and answers how many they are. */
        int writePatch(int context) {
            findChanges();
            paper.length = 0;
            int hunks = 0;
            int first = 0;
            for (int change = 0; change < changeCount; change++) {
                boolean isLast = change == changeCount - 1;
                if (isLast || matchedBehind(change) > 2 * context) {
                    writeHunk(first, change, context);
                    hunks++;
                    first = change + 1;
                }
            }
            return hunks;
        }

        private void findChanges() {
            changeCount = 0;
            int x = 0;
            int y = 0;
            for (int i = 0; i < comparison.x.count; i++) {
                int j = comparison.partnerOf(i);
                if (j != NONE) {
                    keepChange(x, i, y, j);
                    x = i + 1;
                    y = j + 1;
                }
            }
            keepChange(x, comparison.x.count, y, comparison.y.count);
        }

        private void keepChange(int x, int xEnd, int y, int yEnd) {
            if ((x < xEnd || y < yEnd) && changeCount < MOST_CHANGES) {
                changes[changeCount].span(x, xEnd, y, yEnd);
                changeCount++;
            }
        }

        private int matchedBefore(int change) {
            return changes[change].x - (change > 0 ? changes[change - 1].xEnd : 0);
        }

        private int matchedBehind(int change) {
            boolean isLast = change == changeCount - 1;
            int next = isLast ? comparison.x.count : changes[change + 1].x;
            return next - changes[change].xEnd;
        }

        private void writeHunk(int first, int last, int context) {
            int before = Math.min(context, matchedBefore(first));
            int behind = Math.min(context, matchedBehind(last));
            int x = changes[first].x - before;
            int y = changes[first].y - before;
            writeHead(x, changes[last].xEnd + behind - x, y, changes[last].yEnd + behind - y);
            writeLines(KEPT_SIGN, comparison.x, x, changes[first].x);
            for (int change = first; change <= last; change++) {
                Range changed = changes[change];
                writeLines(TAKEN_OUT_SIGN, comparison.x, changed.x, changed.xEnd);
                writeLines(PUT_IN_SIGN, comparison.y, changed.y, changed.yEnd);
                int kept = change == last ? behind : matchedBehind(change);
                writeLines(KEPT_SIGN, comparison.x, changed.xEnd, changed.xEnd + kept);
            }
        }

        private void writeHead(int x, int xCount, int y, int yCount) {
            paper.append(HUNK_SIGN);
            paper.appendNumber(x);
            paper.append(COMMA);
            paper.appendNumber(xCount);
            paper.append(SPACE);
            paper.appendNumber(y);
            paper.append(COMMA);
            paper.appendNumber(yCount);
            paper.append(LINE_END);
        }

        private void writeLines(int sign, Text text, int from, int to) {
            for (int i = from; i < to; i++) {
                paper.appendLine(sign, text.lines[i]);
            }
        }
    }

    /**
     * Reads the hunks of a paper one by one. Where it fails, it stays at the place of the failure.
     */
    private static final class PatchReader {
        private static final int MOST_COUNTED = 99;
        private static final int NO_NUMBER = -1;
        // What stands behind the last character: no byte, so that no rule lets it stand anywhere.
        private static final int PAPER_END = -1;

        private final Paper paper;
        private int place;
        int named;
        private int oldDue;
        private int newDue;
        final int[] oldLines = new int[MOST_COUNTED];
        int oldCount;
        final int[] newLines = new int[MOST_COUNTED];
        int newCount;

        PatchReader(Paper paper) {
            this.paper = paper;
        }

        int placeOfFailure() {
            goToBeginning();
            for (int hunk = 0; hunk < MOST_CHARACTERS && hasMore(); hunk++) {
                if (!takeHunk()) {
                    return place;
                }
            }
            return NO_FAILURE;
        }

        void goToBeginning() {
            place = 0;
        }

        boolean hasMore() {
            return place < paper.length;
        }

        /** Goes behind the next hunk and keeps what it tells; false if it fails. */
        boolean takeHunk() {
            return takeHead() && takeLines();
        }

        private boolean takeHead() {
            if (!takeSign(HUNK_SIGN)) {
                return false;
            }
            named = takeNumber();
            if (named == NO_NUMBER || !takeSign(COMMA)) {
                return false;
            }
            oldDue = takeNumber();
            if (oldDue == NO_NUMBER || !takeSign(SPACE)) {
                return false;
            }
            if (takeNumber() == NO_NUMBER || !takeSign(COMMA)) {
                return false;
            }
            newDue = takeNumber();
            if (newDue == NO_NUMBER) {
                return false;
            }
            // Behind two counts that are 0 nothing can stand, not even the end of the line.
            return oldDue + newDue > 0 && takeSign(LINE_END);
        }

        private boolean takeLines() {
            oldCount = 0;
            newCount = 0;
            // Lines that are old and new at once make fewer of them than the two counts together.
            for (int most = oldDue + newDue; most > 0 && hasLinesDue(); most--) {
                if (!takeLine()) {
                    return false;
                }
            }
            return true;
        }

        private boolean hasLinesDue() {
            return oldCount < oldDue || newCount < newDue;
        }

        private boolean takeLine() {
            int sign = here();
            boolean isOld = sign == KEPT_SIGN || sign == TAKEN_OUT_SIGN;
            boolean isNew = sign == KEPT_SIGN || sign == PUT_IN_SIGN;
            boolean isOneTooMany = (isOld && oldCount >= oldDue) || (isNew && newCount >= newDue);
            if ((!isOld && !isNew) || isOneTooMany) {
                return false;
            }
            place++;
            int letter = here();
            if (!isLetter(letter)) {
                return false;
            }
            place++;
            if (isOld) {
                oldLines[oldCount] = letter;
                oldCount++;
            }
            if (isNew) {
                newLines[newCount] = letter;
                newCount++;
            }
            return takeSign(LINE_END);
        }

        private boolean takeSign(int sign) {
            if (here() != sign) {
                return false;
            }
            place++;
            return true;
        }

        private int takeNumber() {
            if (!isDigit(here())) {
                return NO_NUMBER;
            }
            int number = here() - '0';
            place++;
            // Behind a leading zero no second digit can stand.
            if (number > 0 && isDigit(here())) {
                number = 10 * number + here() - '0';
                place++;
            }
            return number;
        }

        private int here() {
            return place < paper.length ? paper.characters[place] : PAPER_END;
        }

        private static boolean isDigit(int character) {
            return character >= '0' && character <= '9';
        }
    }

    /** Applies a patch that can be read to a text. */
    private static final class PatchFitter {
        private final PatchReader reader;
        private final Text patched = new Text();

        PatchFitter(PatchReader reader) {
            this.reader = reader;
        }

        /** Answers how many hunks there are, or NONE less the number of the one that is refused. */
        int patch(Text text) {
            int hunks = 0;
            int end = 0;
            int total = text.count;
            patched.count = 0;
            reader.goToBeginning();
            while (hunks < MOST_CHARACTERS && reader.hasMore() && reader.takeHunk()) {
                int place = nearestPlace(text, end);
                total += reader.newCount - reader.oldCount;
                if (place == NONE || total > MOST_LINES) {
                    return NONE - hunks;
                }
                patched.appendPart(text, end, place);
                appendNewLines();
                end = place + reader.oldCount;
                hunks++;
            }
            patched.appendPart(text, end, text.count);
            text.become(patched);
            return hunks;
        }

        private void appendNewLines() {
            for (int i = 0; i < reader.newCount; i++) {
                patched.append(reader.newLines[i]);
            }
        }

        private int nearestPlace(Text text, int from) {
            int nearest = NONE;
            for (int place = from; place <= text.count - reader.oldCount; place++) {
                boolean isNearer = nearest == NONE || distance(place) < distance(nearest);
                if (isNearer && fitsAt(text, place)) {
                    nearest = place;
                }
            }
            return nearest;
        }

        private int distance(int place) {
            return Math.abs(place - reader.named);
        }

        private boolean fitsAt(Text text, int place) {
            for (int i = 0; i < reader.oldCount; i++) {
                if (text.lines[place + i] != reader.oldLines[i]) {
                    return false;
                }
            }
            return true;
        }
    }

    /** What lies in one text between two neighbouring firm lines. */
    private static final class Part {
        final Text text;
        int from;
        int to;

        Part(Text text) {
            this.text = text;
        }

        void skipFirmLine() {
            from = to + 1;
        }

        boolean isEqualTo(Part other) {
            if (to - from != other.to - other.from) {
                return false;
            }
            for (int i = from; i < to; i++) {
                if (text.lines[i] != other.text.lines[other.from + i - from]) {
                    return false;
                }
            }
            return true;
        }
    }

    /** Brings two texts together over the one that they came from. */
    private static final class Merger {
        private final Shortest shortest;
        private final Comparison withOne = new Comparison();
        private final Comparison withTwo = new Comparison();
        private final Part base = new Part(withOne.x);
        private final Part one = new Part(withOne.y);
        private final Part two = new Part(withTwo.y);
        private final Text merged = new Text();
        // Counts the lines that found no room in the merged text, too.
        private int total;
        private int conflicts;

        Merger(Shortest shortest) {
            this.shortest = shortest;
        }

        /** Keeps what comes of the texts for handOver, and answers how many conflicts there are. */
        int bringTogether(Text textBase, Text textOne, Text textTwo) {
            withOne.begin(textBase, textOne);
            shortest.matchTexts(withOne);
            withTwo.begin(textBase, textTwo);
            shortest.matchTexts(withTwo);
            base.from = 0;
            one.from = 0;
            two.from = 0;
            merged.count = 0;
            total = 0;
            conflicts = 0;
            for (int i = 0; i < textBase.count; i++) {
                if (withOne.partnerOf(i) != NONE && withTwo.partnerOf(i) != NONE) {
                    settleParts(i, withOne.partnerOf(i), withTwo.partnerOf(i));
                    put(textBase.lines[i]);
                }
            }
            settleParts(textBase.count, textOne.count, textTwo.count);
            return conflicts;
        }

        /** Puts what was merged in place of a text, or answers false if it is too long. */
        boolean handOver(Text text) {
            if (total > MOST_LINES) {
                return false;
            }
            text.become(merged);
            return true;
        }

        private void settleParts(int baseEnd, int oneEnd, int twoEnd) {
            base.to = baseEnd;
            one.to = oneEnd;
            two.to = twoEnd;
            if (one.isEqualTo(base)) {
                putPart(two);
            } else if (two.isEqualTo(base) || two.isEqualTo(one)) {
                putPart(one);
            } else {
                putConflict();
            }
            base.skipFirmLine();
            one.skipFirmLine();
            two.skipFirmLine();
        }

        private void putConflict() {
            conflicts++;
            put(CONFLICT_BEGIN);
            putPart(one);
            put(CONFLICT_MIDDLE);
            putPart(two);
            put(CONFLICT_END);
        }

        private void putPart(Part part) {
            for (int i = part.from; i < part.to; i++) {
                put(part.text.lines[i]);
            }
        }

        private void put(int line) {
            merged.append(line);
            total++;
        }
    }
}
