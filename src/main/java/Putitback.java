/**
 * A keyboard that knows better: it puts words of its book in the place of what was typed,
 * and learns from the hands that put them back. The promises are those of the document.
 */
public final class Putitback {
    private static final int NONE = -1;
    private static final int KEYS = 9;
    private static final int KEYS_OF_A_ROW = 3;
    private static final int KEYS_OF_A_WORD = 6;
    private static final int LARGEST_WORD = 999999;
    private static final int COST_OF_A_KEY = 2;
    private static final int PLACES = 12;
    private static final int WORDS_OF_A_TEXT = 12;
    private static final int LARGEST_COUNT = 99;
    private static final int LARGEST_COUNT_FOR_WORTH = 9;
    private static final int LARGEST_PAIR = 9;
    private static final int HANDS = 3;
    private static final int LARGEST_TRUST = 3;
    private static final int LAST_DAY = 999;
    private static final int LARGEST_PASS = 60;
    private static final int DAYS_TO_FORGET = 30;
    private static final int TIMES_TO_BELIEVE = 2;
    private static final int TIMES_TO_LEARN = 3;
    private static final int HOUSE_NUMBERS = 10;
    private static final int OFFERS_OF_A_DIGEST = 4;
    private static final long START_OF_A_DIGEST = 3391;

    // An object lives for 512 calls, and a word of the text is put back at most once after the
    // blank() or choose() that made it: so no more than 256 different words are ever put back.
    private static final int MENDED_WORDS = 256;

    private final Costs costs = new Costs();
    private final Book book = new Book();
    private final Line line = new Line();
    private final Mends mends = new Mends();
    private final int[] trust = {LARGEST_TRUST, LARGEST_TRUST, LARGEST_TRUST};
    private final int[] worths = new int[PLACES];
    private final int[][] costsInBook = new int[PLACES][PLACES];
    private int open;
    private int typing;
    private int today;
    private int changed;
    private int mended;
    private int taps;
    private int refused;

    public Putitback() {
    }

    // ---- the book and days

    public int give(int word, int count) throws IllegalArgumentException, IllegalStateException {
        if (!isWord(word) || count < 1 || count > LARGEST_COUNT) {
            throw new IllegalArgumentException("no word, or no count");
        }
        if (!book.holds(word) && book.isFull()) {
            throw new IllegalStateException("the book is full");
        }
        return book.enter(word, count, false, today);
    }

    public boolean forget(int word) throws IllegalArgumentException {
        if (!isWord(word)) {
            throw new IllegalArgumentException("no word");
        }
        int place = book.placeOf(word);
        if (place == NONE) {
            return false;
        }
        book.remove(place);
        return true;
    }

    public int pass(int days) throws IllegalArgumentException, IllegalStateException {
        if (days < 1 || days > LARGEST_PASS) {
            throw new IllegalArgumentException("not 1 to 60 days");
        }
        if (today + days > LAST_DAY) {
            throw new IllegalStateException("beyond the last day");
        }
        int gone = 0;
        for (int day = 0; day < days; day++) {
            today++;
            gone += book.letGo(today);
            raiseTrust();
        }
        return gone;
    }

    // ---- typing

    public int hand(int hand) throws IndexOutOfBoundsException {
        if (!isHand(hand)) {
            throw new IndexOutOfBoundsException("no hand");
        }
        int before = typing;
        typing = hand;
        return before;
    }

    public int tap(int key) throws IllegalArgumentException, IllegalStateException {
        if (key < 1 || key > KEYS) {
            throw new IllegalArgumentException("no key");
        }
        int length = lengthOf(open);
        if (length >= KEYS_OF_A_WORD) {
            throw new IllegalStateException("the open word is full");
        }
        open = open * 10 + key;
        taps++;
        return length + 1;
    }

    public int blank() throws IllegalStateException {
        if (!canEndWord()) {
            throw new IllegalStateException("no key, or the text is full");
        }
        int shown = shownFor(typing, open);
        if (shown != open) {
            changed++;
        }
        return endWord(shown);
    }

    public int choose(int nth) throws IndexOutOfBoundsException, IllegalStateException {
        if (!book.hasPlace(nth)) {
            throw new IndexOutOfBoundsException("no such offer");
        }
        if (!canEndWord()) {
            throw new IllegalStateException("no key, or the text is full");
        }
        weigh(open);
        return endWord(book.wordAt(placeOfOffer(nth)));
    }

    public int putBack() throws IllegalStateException {
        int last = line.last();
        if (last == NONE || line.shownAt(last) == line.typedAt(last)) {
            throw new IllegalStateException("nothing to put back");
        }
        int word = line.typedAt(last);
        int by = line.handAt(last);
        line.showAsTyped(last);
        mended++;
        int times = mends.count(by, word);
        lowerTrust(by);
        if (mends.timesOfAll(word) >= TIMES_TO_LEARN) {
            learn(word);
        }
        return times;
    }

    public int erase() throws IllegalStateException {
        int last = line.last();
        if (open == 0 && last == NONE) {
            throw new IllegalStateException("nothing to erase");
        }
        if (open == 0) {
            open = line.typedAt(last);
            line.dropLast();
            return 0;
        }
        int key = open % 10;
        open = open / 10;
        return key;
    }

    public int send() {
        int words = line.size();
        line.empty();
        open = 0;
        return words;
    }

    // ---- what is asked

    public int cost(int one, int other) throws IllegalArgumentException {
        if (!isWord(one) || !isWord(other)) {
            throw new IllegalArgumentException("no word");
        }
        return costs.ofWords(one, other);
    }

    public int ofBook(int place, int what) throws IndexOutOfBoundsException, IllegalArgumentException {
        if (!book.hasPlace(place)) {
            throw new IndexOutOfBoundsException("no such place");
        }
        switch (what) {
            case 0:
                return book.wordAt(place);
            case 1:
                return book.countAt(place);
            case 2:
                return book.isLearntAt(place) ? 1 : 0;
            case 3:
                return book.dayAt(place);
            case 4:
                return worthForOpenWord(place);
            default:
                throw new IllegalArgumentException("not 0 to 4");
        }
    }

    public int pair(int one, int other) throws IndexOutOfBoundsException {
        if (!book.hasPlace(one) || !book.hasPlace(other)) {
            throw new IndexOutOfBoundsException("no such place");
        }
        return book.pairAt(one, other);
    }

    public int ofText(int at, int what) throws IndexOutOfBoundsException, IllegalArgumentException {
        if (!line.hasWordAt(at)) {
            throw new IndexOutOfBoundsException("no such word");
        }
        switch (what) {
            case 0:
                return line.typedAt(at);
            case 1:
                return line.shownAt(at);
            case 2:
                return line.handAt(at);
            default:
                throw new IllegalArgumentException("not 0 to 2");
        }
    }

    public int ofHand(int hand, int what) throws IndexOutOfBoundsException, IllegalArgumentException {
        if (!isHand(hand)) {
            throw new IndexOutOfBoundsException("no hand");
        }
        switch (what) {
            case 0:
                return trustOf(hand);
            case 1:
                return mends.wordsOf(hand);
            case 2:
                return mends.timesOfHand(hand);
            default:
                throw new IllegalArgumentException("not 0 to 2");
        }
    }

    public int putBacks(int hand, int word) throws IndexOutOfBoundsException, IllegalArgumentException {
        if (!isHand(hand)) {
            throw new IndexOutOfBoundsException("no hand");
        }
        if (!isWord(word)) {
            throw new IllegalArgumentException("no word");
        }
        return mends.timesOf(hand, word);
    }

    public int house(int what) throws IllegalArgumentException {
        switch (what) {
            case 0:
                return book.size();
            case 1:
                return book.learntWords();
            case 2:
                return line.size();
            case 3:
                return open;
            case 4:
                return typing;
            case 5:
                return today;
            case 6:
                return changed;
            case 7:
                return mended;
            case 8:
                return taps;
            case 9:
                return refused;
            default:
                throw new IllegalArgumentException("not 0 to 9");
        }
    }

    public String text() {
        StringBuilder signs = new StringBuilder();
        for (int at = 0; at < line.size(); at++) {
            signs.append(line.shownAt(at)).append(' ');
        }
        return withOpenWord(signs);
    }

    public String typed() {
        StringBuilder signs = new StringBuilder();
        for (int at = 0; at < line.size(); at++) {
            signs.append(line.typedAt(at)).append(' ');
        }
        return withOpenWord(signs);
    }

    // ---- what would be

    public int offer(int nth) throws IllegalArgumentException {
        if (nth < 0) {
            throw new IllegalArgumentException("below 0");
        }
        if (open == 0) {
            return NONE;
        }
        weigh(open);
        return book.wordAt(placeOfOffer(nth));
    }

    public int wouldShow(int hand) throws IndexOutOfBoundsException {
        if (!isHand(hand)) {
            throw new IndexOutOfBoundsException("no hand");
        }
        return open == 0 ? NONE : shownFor(hand, open);
    }

    public boolean isSound() {
        measureBook();
        return costsAreSound() && book.hasNoWordTwice() && mendsAreShown() && book.numbersAreSound();
    }

    public int knock() {
        refused++;
        return refused;
    }

    public long digest() {
        long d = START_OF_A_DIGEST;
        for (int what = 0; what < HOUSE_NUMBERS; what++) {
            d = d * 31 + house(what);
        }
        d = withBook(d);
        d = withText(d);
        d = withHands(d);
        for (int nth = 0; nth < OFFERS_OF_A_DIGEST; nth++) {
            d = d * 31 + offer(nth);
        }
        d = d * 31 + text().length();
        return d * 31 + (isSound() ? 1 : 0);
    }

    // ---- words and hands

    private static boolean isWord(int number) {
        if (number < 1 || number > LARGEST_WORD) {
            return false;
        }
        int rest = number;
        for (int i = 0; i < KEYS_OF_A_WORD && rest > 0; i++) {
            if (rest % 10 == 0) {
                return false;
            }
            rest = rest / 10;
        }
        return true;
    }

    private static int lengthOf(int word) {
        int length = 0;
        int rest = word;
        while (length < KEYS_OF_A_WORD && rest > 0) {
            rest = rest / 10;
            length++;
        }
        return length;
    }

    private static boolean isHand(int number) {
        return number >= 0 && number < HANDS;
    }

    private int trustOf(int hand) {
        return isHand(hand) ? trust[hand] : 0;
    }

    private void lowerTrust(int hand) {
        if (isHand(hand) && trust[hand] > 0) {
            trust[hand]--;
        }
    }

    private void raiseTrust() {
        for (int hand = 0; hand < HANDS; hand++) {
            if (trust[hand] < LARGEST_TRUST) {
                trust[hand]++;
            }
        }
    }

    // ---- ending a word

    private boolean canEndWord() {
        return open != 0 && !line.isFull();
    }

    private int shownFor(int hand, int word) {
        if (book.holds(word) || mends.timesOf(hand, word) >= TIMES_TO_BELIEVE) {
            return word;
        }
        weigh(word);
        int first = placeOfOffer(0);
        if (first == NONE) {
            return word;
        }
        int offered = book.wordAt(first);
        return costs.ofWords(word, offered) <= trustOf(hand) ? offered : word;
    }

    private int endWord(int shown) {
        // The pair is with the word ahead, so the book is told before the text is longer.
        book.use(shown, lastShown(), today);
        line.add(open, shown, typing);
        open = 0;
        return shown;
    }

    private int lastShown() {
        return line.shownAt(line.last());
    }

    private void learn(int word) {
        if (book.holds(word)) {
            return;
        }
        if (book.isFull()) {
            book.remove(book.leastLearnt());
        }
        if (!book.isFull()) {
            book.enter(word, 1, true, today);
        }
    }

    private String withOpenWord(StringBuilder signs) {
        if (open != 0) {
            signs.append(open);
        }
        return signs.toString();
    }

    // ---- offers

    // Fills the row of worths, which is made once for all calls: whoever reads it weighs first.
    private void weigh(int word) {
        int last = book.placeOf(lastShown());
        for (int place = 0; place < book.size(); place++) {
            int count = Math.min(book.countAt(place), LARGEST_COUNT_FOR_WORTH);
            int cost = costs.ofWords(word, book.wordAt(place));
            worths[place] = 10 * cost - count - 2 * book.pairAt(last, place);
        }
    }

    private int worthForOpenWord(int place) {
        if (open == 0 || !book.hasPlace(place)) {
            return NONE;
        }
        weigh(open);
        return worths[place];
    }

    private int placeOfOffer(int nth) {
        for (int place = 0; place < book.size(); place++) {
            if (offersAheadOf(place) == nth) {
                return place;
            }
        }
        return NONE;
    }

    private int offersAheadOf(int place) {
        int ahead = 0;
        for (int i = 0; i < book.size(); i++) {
            if (worths[i] < worths[place] || worths[i] == worths[place] && i < place) {
                ahead++;
            }
        }
        return ahead;
    }

    // ---- soundness

    private void measureBook() {
        int size = book.size();
        for (int one = 0; one < size; one++) {
            for (int other = 0; other < size; other++) {
                costsInBook[one][other] = costs.ofWords(book.wordAt(one), book.wordAt(other));
            }
        }
    }

    private boolean costsAreSound() {
        int size = book.size();
        for (int one = 0; one < size; one++) {
            for (int other = 0; other < size; other++) {
                if (!costIsSound(one, other, size)) {
                    return false;
                }
            }
        }
        return true;
    }

    private boolean costIsSound(int one, int other, int size) {
        int straight = costsInBook[one][other];
        if ((straight == 0) != (one == other) || straight != costsInBook[other][one]) {
            return false;
        }
        for (int third = 0; third < size; third++) {
            if (straight > costsInBook[one][third] + costsInBook[third][other]) {
                return false;
            }
        }
        return true;
    }

    private boolean mendsAreShown() {
        for (int i = 0; i < mends.size(); i++) {
            int word = mends.wordAt(i);
            for (int hand = 0; hand < HANDS; hand++) {
                if (mends.timesOf(hand, word) >= TIMES_TO_BELIEVE && shownFor(hand, word) != word) {
                    return false;
                }
            }
        }
        return true;
    }

    // ---- the digest

    private long withBook(long before) {
        long d = before;
        for (int place = 0; place < book.size(); place++) {
            for (int what = 0; what < 5; what++) {
                d = d * 31 + ofBook(place, what);
            }
            for (int other = 0; other < book.size(); other++) {
                d = d * 31 + pair(place, other);
            }
        }
        return d;
    }

    private long withText(long before) {
        long d = before;
        for (int at = 0; at < line.size(); at++) {
            for (int what = 0; what < 3; what++) {
                d = d * 31 + ofText(at, what);
            }
        }
        return d;
    }

    private long withHands(long before) {
        long d = before;
        for (int hand = 0; hand < HANDS; hand++) {
            for (int what = 0; what < 3; what++) {
                d = d * 31 + ofHand(hand, what);
            }
            d = d * 31 + wouldShow(hand);
        }
        return d;
    }

    /** What it costs to make one word of another one; its rows are used again for each answer. */
    private static final class Costs {
        private final int[] from = new int[KEYS_OF_A_WORD];
        private final int[] into = new int[KEYS_OF_A_WORD];
        private final int[][] least = new int[KEYS_OF_A_WORD + 1][KEYS_OF_A_WORD + 1];

        int ofWords(int one, int other) {
            int rows = spread(one, from);
            int columns = spread(other, into);
            for (int column = 0; column <= columns; column++) {
                least[0][column] = COST_OF_A_KEY * column;
            }
            for (int row = 1; row <= rows; row++) {
                least[row][0] = COST_OF_A_KEY * row;
                for (int column = 1; column <= columns; column++) {
                    int changing = least[row - 1][column - 1] + ofKeys(from[row - 1], into[column - 1]);
                    int leavingOut = least[row - 1][column] + COST_OF_A_KEY;
                    int puttingIn = least[row][column - 1] + COST_OF_A_KEY;
                    least[row][column] = Math.min(changing, Math.min(leavingOut, puttingIn));
                }
            }
            return least[rows][columns];
        }

        private static int ofKeys(int one, int other) {
            int rows = Math.abs((one - 1) / KEYS_OF_A_ROW - (other - 1) / KEYS_OF_A_ROW);
            int columns = Math.abs((one - 1) % KEYS_OF_A_ROW - (other - 1) % KEYS_OF_A_ROW);
            return Math.min(rows + columns, COST_OF_A_KEY);
        }

        private static int spread(int word, int[] keys) {
            int length = lengthOf(word);
            int rest = word;
            for (int i = length - 1; i >= 0; i--) {
                keys[i] = rest % 10;
                rest = rest / 10;
            }
            return length;
        }
    }

    /** The words in their places, with what is kept of each, and their pairs. */
    private static final class Book {
        private final int[] words = new int[PLACES];
        private final int[] counts = new int[PLACES];
        private final int[] days = new int[PLACES];
        private final boolean[] learnt = new boolean[PLACES];
        private final int[][] pairs = new int[PLACES][PLACES];
        private int size;

        int size() {
            return size;
        }

        boolean isFull() {
            return size >= PLACES;
        }

        boolean hasPlace(int place) {
            return place >= 0 && place < size;
        }

        int placeOf(int word) {
            for (int place = 0; place < size; place++) {
                if (words[place] == word) {
                    return place;
                }
            }
            return NONE;
        }

        boolean holds(int word) {
            return placeOf(word) != NONE;
        }

        int wordAt(int place) {
            return hasPlace(place) ? words[place] : NONE;
        }

        int countAt(int place) {
            return hasPlace(place) ? counts[place] : 0;
        }

        int dayAt(int place) {
            return hasPlace(place) ? days[place] : 0;
        }

        boolean isLearntAt(int place) {
            return hasPlace(place) && learnt[place];
        }

        int pairAt(int one, int other) {
            return hasPlace(one) && hasPlace(other) ? pairs[one][other] : 0;
        }

        int learntWords() {
            int number = 0;
            for (int place = 0; place < size; place++) {
                if (learnt[place]) {
                    number++;
                }
            }
            return number;
        }

        int leastLearnt() {
            int least = NONE;
            for (int place = 0; place < size; place++) {
                if (learnt[place] && (least == NONE || counts[place] < countAt(least))) {
                    least = place;
                }
            }
            return least;
        }

        int enter(int word, int count, boolean isLearnt, int day) {
            int place = placeOf(word);
            if (place == NONE) {
                place = newPlace();
            }
            if (place == NONE) {
                return NONE;
            }
            words[place] = word;
            counts[place] = count;
            learnt[place] = isLearnt;
            days[place] = day;
            return place;
        }

        private int newPlace() {
            if (isFull()) {
                return NONE;
            }
            int place = size;
            size++;
            for (int other = 0; other < size; other++) {
                pairs[place][other] = 0;
                pairs[other][place] = 0;
            }
            return place;
        }

        void remove(int place) {
            if (!hasPlace(place)) {
                return;
            }
            for (int to = place; to < size - 1; to++) {
                words[to] = words[to + 1];
                counts[to] = counts[to + 1];
                days[to] = days[to + 1];
                learnt[to] = learnt[to + 1];
            }
            removePairs(place);
            size--;
        }

        private void removePairs(int place) {
            for (int to = place; to < size - 1; to++) {
                for (int other = 0; other < size; other++) {
                    pairs[to][other] = pairs[to + 1][other];
                }
            }
            for (int one = 0; one < size; one++) {
                for (int to = place; to < size - 1; to++) {
                    pairs[one][to] = pairs[one][to + 1];
                }
            }
        }

        int letGo(int today) {
            int gone = 0;
            // From the end, as removing a word moves only those that are behind it.
            for (int place = size - 1; place >= 0; place--) {
                if (isLearntAt(place) && today - dayAt(place) >= DAYS_TO_FORGET) {
                    remove(place);
                    gone++;
                }
            }
            return gone;
        }

        void use(int word, int wordAhead, int today) {
            int place = placeOf(word);
            if (place == NONE) {
                return;
            }
            counts[place] = Math.min(counts[place] + 1, LARGEST_COUNT);
            days[place] = today;
            int ahead = placeOf(wordAhead);
            if (ahead != NONE) {
                pairs[ahead][place] = Math.min(pairs[ahead][place] + 1, LARGEST_PAIR);
            }
        }

        boolean hasNoWordTwice() {
            for (int place = 0; place < size; place++) {
                if (placeOf(words[place]) != place) {
                    return false;
                }
            }
            return true;
        }

        boolean numbersAreSound() {
            for (int one = 0; one < size; one++) {
                if (counts[one] < 1 || counts[one] > LARGEST_COUNT) {
                    return false;
                }
                for (int other = 0; other < size; other++) {
                    if (pairs[one][other] < 0 || pairs[one][other] > LARGEST_PAIR) {
                        return false;
                    }
                }
            }
            return true;
        }
    }

    /** The words of the text, without the open one. */
    private static final class Line {
        private final int[] typedWords = new int[WORDS_OF_A_TEXT];
        private final int[] shownWords = new int[WORDS_OF_A_TEXT];
        private final int[] hands = new int[WORDS_OF_A_TEXT];
        private int size;

        int size() {
            return size;
        }

        boolean isFull() {
            return size >= WORDS_OF_A_TEXT;
        }

        boolean hasWordAt(int at) {
            return at >= 0 && at < size;
        }

        int last() {
            return size > 0 ? size - 1 : NONE;
        }

        int typedAt(int at) {
            return hasWordAt(at) ? typedWords[at] : NONE;
        }

        int shownAt(int at) {
            return hasWordAt(at) ? shownWords[at] : NONE;
        }

        int handAt(int at) {
            return hasWordAt(at) ? hands[at] : NONE;
        }

        void add(int typedWord, int shownWord, int byHand) {
            if (isFull()) {
                return;
            }
            typedWords[size] = typedWord;
            shownWords[size] = shownWord;
            hands[size] = byHand;
            size++;
        }

        void showAsTyped(int at) {
            if (hasWordAt(at)) {
                shownWords[at] = typedWords[at];
            }
        }

        void dropLast() {
            if (size > 0) {
                size--;
            }
        }

        void empty() {
            size = 0;
        }
    }

    /** How often each hand has put back what it typed; kept for good. */
    private static final class Mends {
        private final int[] words = new int[MENDED_WORDS];
        private final int[][] times = new int[HANDS][MENDED_WORDS];
        private int size;

        int size() {
            return size;
        }

        int wordAt(int at) {
            return at >= 0 && at < size ? words[at] : NONE;
        }

        private int find(int word) {
            for (int at = 0; at < size; at++) {
                if (words[at] == word) {
                    return at;
                }
            }
            return NONE;
        }

        int timesOf(int hand, int word) {
            int at = find(word);
            return at != NONE && isHand(hand) ? times[hand][at] : 0;
        }

        int timesOfAll(int word) {
            int sum = 0;
            for (int hand = 0; hand < HANDS; hand++) {
                sum += timesOf(hand, word);
            }
            return sum;
        }

        int wordsOf(int hand) {
            int different = 0;
            for (int at = 0; at < size && isHand(hand); at++) {
                if (times[hand][at] > 0) {
                    different++;
                }
            }
            return different;
        }

        int timesOfHand(int hand) {
            int sum = 0;
            for (int at = 0; at < size && isHand(hand); at++) {
                sum += times[hand][at];
            }
            return sum;
        }

        int count(int hand, int word) {
            int at = find(word);
            if (at == NONE && size < MENDED_WORDS) {
                at = size;
                words[at] = word;
                size++;
            }
            if (at == NONE || !isHand(hand)) {
                return 0;
            }
            times[hand][at]++;
            return times[hand][at];
        }
    }
}
