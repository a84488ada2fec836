import java.util.ArrayList;
import java.util.Comparator;
import java.util.HashMap;
import java.util.List;
import java.util.Map;

/**
 * The document a second time, with the Java library and in other shapes (words as texts, pairs in
 * a map, cost by trying each way), to be compared with the class.
 */
final class Model {
    static final class Word {
        String keys;
        int count;
        boolean learnt;
        int day;
    }

    static final class Entry {
        String typed;
        String shown;
        int hand;
    }

    private final List<Word> book = new ArrayList<>();
    private final Map<String, Integer> pairs = new HashMap<>();
    private final List<Entry> text = new ArrayList<>();
    private final List<Map<String, Integer>> mends = List.of(new HashMap<>(), new HashMap<>(), new HashMap<>());
    private final int[] trust = {3, 3, 3};
    private final Map<String, Integer> costs = new HashMap<>();
    private String open = "";
    private int typing;
    private int today;
    private int changed;
    private int mended;
    private int taps;
    private int refused;

    private static void argument(boolean fine) {
        if (!fine) {
            throw new IllegalArgumentException();
        }
    }

    private static void index(boolean fine) {
        if (!fine) {
            throw new IndexOutOfBoundsException();
        }
    }

    private static void state(boolean fine) {
        if (!fine) {
            throw new IllegalStateException();
        }
    }

    private static boolean isWord(int word) {
        return String.valueOf(word).matches("[1-9]{1,6}");
    }

    private static boolean isHand(int hand) {
        return hand >= 0 && hand <= 2;
    }

    private boolean isPlace(int place) {
        return place >= 0 && place < book.size();
    }

    private Word find(String keys) {
        return book.stream().filter(w -> w.keys.equals(keys)).findFirst().orElse(null);
    }

    private void remove(Word word) {
        book.remove(word);
        pairs.keySet().removeIf(p -> p.startsWith(word.keys + ">") || p.endsWith(">" + word.keys));
    }

    private static boolean near(char one, char other) {
        return List.of("12", "23", "45", "56", "78", "89", "14", "25", "36", "47", "58", "69")
                .stream().anyMatch(p -> p.equals("" + one + other) || p.equals("" + other + one));
    }

    private int costOf(String one, String other) {
        if (one.isEmpty() || other.isEmpty()) {
            return 2 * (one.length() + other.length());
        }
        Integer known = costs.get(one + ">" + other);
        if (known != null) {
            return known;
        }
        char a = one.charAt(0);
        char b = other.charAt(0);
        int change = a == b ? 0 : near(a, b) ? 1 : 2;
        int least = change + costOf(one.substring(1), other.substring(1));
        least = Math.min(least, 2 + costOf(one.substring(1), other));
        least = Math.min(least, 2 + costOf(one, other.substring(1)));
        costs.put(one + ">" + other, least);
        return least;
    }

    private String lastShown() {
        return text.isEmpty() ? null : text.get(text.size() - 1).shown;
    }

    private int worth(Word word, String typed) {
        int pair = lastShown() == null ? 0 : pairs.getOrDefault(lastShown() + ">" + word.keys, 0);
        return 10 * costOf(word.keys, typed) - Math.min(9, word.count) - 2 * pair;
    }

    private List<Word> offers(String typed) {
        List<Word> offers = new ArrayList<>(book);
        offers.sort(Comparator.comparingInt(w -> worth(w, typed)));
        return offers;
    }

    private String shown(int hand, String typed) {
        if (find(typed) != null || mends.get(hand).getOrDefault(typed, 0) >= 2 || book.isEmpty()) {
            return typed;
        }
        String first = offers(typed).get(0).keys;
        return costOf(first, typed) <= trust[hand] ? first : typed;
    }

    private int end(String shown) {
        Word used = find(shown);
        if (used != null) {
            used.count = Math.min(99, used.count + 1);
            used.day = today;
            if (lastShown() != null && find(lastShown()) != null) {
                pairs.merge(lastShown() + ">" + shown, 1, (a, b) -> Math.min(9, a + b));
            }
        }
        Entry entry = new Entry();
        entry.typed = open;
        entry.shown = shown;
        entry.hand = typing;
        text.add(entry);
        open = "";
        return Integer.parseInt(shown);
    }

    private void add(String keys, int count, boolean learnt) {
        Word word = new Word();
        word.keys = keys;
        word.count = count;
        word.learnt = learnt;
        word.day = today;
        book.add(word);
    }

    int give(int number, int count) {
        argument(isWord(number) && count >= 1 && count <= 99);
        Word word = find("" + number);
        state(word != null || book.size() < 12);
        if (word == null) {
            add("" + number, count, false);
            return book.size() - 1;
        }
        word.count = count;
        word.learnt = false;
        word.day = today;
        return book.indexOf(word);
    }

    boolean forget(int number) {
        argument(isWord(number));
        Word word = find("" + number);
        if (word == null) {
            return false;
        }
        remove(word);
        return true;
    }

    int pass(int days) {
        argument(days >= 1 && days <= 60);
        state(today + days <= 999);
        int before = book.size();
        for (int i = 0; i < days; i++) {
            today++;
            for (Word word : List.copyOf(book)) {
                if (word.learnt && word.day + 30 <= today) {
                    remove(word);
                }
            }
            for (int hand = 0; hand < 3; hand++) {
                trust[hand] = Math.min(3, trust[hand] + 1);
            }
        }
        return before - book.size();
    }

    int hand(int hand) {
        index(isHand(hand));
        int before = typing;
        typing = hand;
        return before;
    }

    int tap(int key) {
        argument(key >= 1 && key <= 9);
        state(open.length() < 6);
        taps++;
        open += key;
        return open.length();
    }

    int blank() {
        state(!open.isEmpty() && text.size() < 12);
        String shown = shown(typing, open);
        if (!shown.equals(open)) {
            changed++;
        }
        return end(shown);
    }

    int choose(int nth) {
        index(isPlace(nth));
        state(!open.isEmpty() && text.size() < 12);
        return end(offers(open).get(nth).keys);
    }

    int putBack() {
        state(!text.isEmpty());
        Entry last = text.get(text.size() - 1);
        state(!last.shown.equals(last.typed));
        last.shown = last.typed;
        mended++;
        mends.get(last.hand).merge(last.typed, 1, Integer::sum);
        trust[last.hand] = Math.max(0, trust[last.hand] - 1);
        int all = mends.stream().mapToInt(m -> m.getOrDefault(last.typed, 0)).sum();
        if (all >= 3 && find(last.typed) == null) {
            learn(last.typed);
        }
        return mends.get(last.hand).get(last.typed);
    }

    private void learn(String keys) {
        if (book.size() == 12) {
            Word least = book.stream().filter(w -> w.learnt)
                    .min(Comparator.comparingInt(w -> w.count)).orElse(null);
            if (least == null) {
                return;
            }
            remove(least);
        }
        add(keys, 1, true);
    }

    int erase() {
        state(!open.isEmpty() || !text.isEmpty());
        if (open.isEmpty()) {
            open = text.remove(text.size() - 1).typed;
            return 0;
        }
        int key = open.charAt(open.length() - 1) - '0';
        open = open.substring(0, open.length() - 1);
        return key;
    }

    int send() {
        int words = text.size();
        text.clear();
        open = "";
        return words;
    }

    int cost(int one, int other) {
        argument(isWord(one) && isWord(other));
        return costOf("" + one, "" + other);
    }

    int ofBook(int place, int what) {
        index(isPlace(place));
        argument(what >= 0 && what <= 4);
        Word word = book.get(place);
        int worth = open.isEmpty() ? -1 : worth(word, open);
        return new int[] {Integer.parseInt(word.keys), word.count, word.learnt ? 1 : 0, word.day, worth}[what];
    }

    int pair(int one, int other) {
        index(isPlace(one) && isPlace(other));
        return pairs.getOrDefault(book.get(one).keys + ">" + book.get(other).keys, 0);
    }

    int ofText(int at, int what) {
        index(at >= 0 && at < text.size());
        argument(what >= 0 && what <= 2);
        Entry entry = text.get(at);
        return new int[] {Integer.parseInt(entry.typed), Integer.parseInt(entry.shown), entry.hand}[what];
    }

    int ofHand(int hand, int what) {
        index(isHand(hand));
        argument(what >= 0 && what <= 2);
        Map<String, Integer> its = mends.get(hand);
        int all = its.values().stream().mapToInt(Integer::intValue).sum();
        return new int[] {trust[hand], its.size(), all}[what];
    }

    int putBacks(int hand, int word) {
        index(isHand(hand));
        argument(isWord(word));
        return mends.get(hand).getOrDefault("" + word, 0);
    }

    int house(int what) {
        argument(what >= 0 && what <= 9);
        int learnt = (int) book.stream().filter(w -> w.learnt).count();
        int opened = open.isEmpty() ? 0 : Integer.parseInt(open);
        return new int[] {book.size(), learnt, text.size(), opened, typing, today, changed, mended, taps, refused}[what];
    }

    String text() {
        StringBuilder all = new StringBuilder();
        text.forEach(e -> all.append(e.shown).append(' '));
        return all + open;
    }

    String typed() {
        StringBuilder all = new StringBuilder();
        text.forEach(e -> all.append(e.typed).append(' '));
        return all + open;
    }

    int offer(int nth) {
        argument(nth >= 0);
        return open.isEmpty() || nth >= book.size() ? -1 : Integer.parseInt(offers(open).get(nth).keys);
    }

    int wouldShow(int hand) {
        index(isHand(hand));
        return open.isEmpty() ? -1 : Integer.parseInt(shown(hand, open));
    }

    /** No run of calls leads to a keyboard that is not sound. */
    boolean isSound() {
        return true;
    }

    int knock() {
        return ++refused;
    }

    long digest() {
        List<Integer> all = new ArrayList<>();
        for (int what = 0; what <= 9; what++) {
            all.add(house(what));
        }
        for (int place = 0; place < book.size(); place++) {
            for (int what = 0; what <= 4; what++) {
                all.add(ofBook(place, what));
            }
            for (int other = 0; other < book.size(); other++) {
                all.add(pair(place, other));
            }
        }
        for (int at = 0; at < text.size(); at++) {
            for (int what = 0; what <= 2; what++) {
                all.add(ofText(at, what));
            }
        }
        for (int hand = 0; hand <= 2; hand++) {
            for (int what = 0; what <= 2; what++) {
                all.add(ofHand(hand, what));
            }
            all.add(wouldShow(hand));
        }
        for (int nth = 0; nth <= 3; nth++) {
            all.add(offer(nth));
        }
        all.add(text().length());
        all.add(isSound() ? 1 : 0);
        long d = 3391;
        for (int v : all) {
            d = d * 31 + v;
        }
        return d;
    }
}
