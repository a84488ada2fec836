/** Description 2 («As a DAY goes by») and promise 4, sentence by sentence: today, what goes by days, trust. */
public final class EdgesOfDaysTest {
    private static final Check CHECK = new Check();

    public static void main(String[] args) {
        todayIsZeroAtFirst();
        oneToSixtyDays();
        nineHundredNinetyNineAtMost();
        whatIsNamedFirst();
        aRefusedPassLetsNoneGo();
        twentyNineDaysStay();
        thirtyDaysGo();
        longerThanThirtyDays();
        usedLaterStaysLonger();
        givenOnesStay();
        shownButNotUsedGoes();
        learntAgainAfterItWent();
        theFirstPlaceGoes();
        severalGo();
        whatIsBehindMoves();
        trustUpToThree();
        trustOfEachHandByEachDay();
        CHECK.end("EdgesOfDaysTest");
    }

    /** 5 is given, 9 is learnt on that day, trust of all hands is 2 then. */
    private static Putitback learntOn(int day) {
        Putitback x = new Putitback();
        x.give(5, 50);
        Typist.passTo(x, day);
        Typist.learn(x, 9, 5);
        return x;
    }

    // «TODAY is 0 at first, 999 at most.»

    private static void todayIsZeroAtFirst() {
        Putitback x = new Putitback();
        CHECK.same("18: today", x.house(5), 0);
        x.give(5, 1);
        CHECK.same("13: the day of a given one", x.ofBook(0, 3), 0);
        CHECK.same("4: no word went", x.pass(1), 0);
        CHECK.same("18: today is 1 more", x.house(5), 1);
    }

    private static void oneToSixtyDays() {
        int[] fine = {1, 2, 29, 30, 31, 59, 60};
        for (int days : fine) {
            Putitback x = new Putitback();
            CHECK.same("4: pass(" + days + ")", x.pass(days), 0);
            CHECK.same("4: today", x.house(5), days);
            x.pass(days);
            CHECK.same("4: today again", x.house(5), 2 * days);
        }
        int[] wrong = {0, 61, -1, -60, 62, 999, 1000, Integer.MIN_VALUE, Integer.MAX_VALUE};
        for (int days : wrong) {
            CHECK.leaves("4: pass(" + days + ")", Scenes::busy, "throws.IllegalArgumentException", x -> x.pass(days));
            CHECK.leaves("4: pass(" + days + ") of a new one", Putitback::new,
                    "throws.IllegalArgumentException", x -> x.pass(days));
        }
    }

    private static Putitback onDay(int day) {
        Putitback x = new Putitback();
        Typist.passTo(x, day);
        return x;
    }

    private static void nineHundredNinetyNineAtMost() {
        int[][] fine = {{998, 1}, {997, 2}, {939, 60}, {940, 59}, {969, 30}};
        for (int[] row : fine) {
            Putitback x = onDay(row[0]);
            CHECK.same("4: to the last day", x.pass(row[1]), 0);
            CHECK.same("4: the last day", x.house(5), 999);
        }
        int[][] wrong = {{999, 1}, {999, 60}, {998, 2}, {940, 60}, {941, 59}, {970, 30}, {998, 60}};
        for (int[] row : wrong) {
            CHECK.leaves("4: beyond the last day", () -> onDay(row[0]),
                    "throws.IllegalStateException", x -> x.pass(row[1]));
        }
        Putitback x = onDay(998);
        x.give(5, 1);
        x.pass(1);
        Typist.write(x, 5);
        CHECK.same("13: used on the last day", x.ofBook(0, 3), 999);
        x.give(6, 1);
        CHECK.same("13: given on the last day", x.ofBook(1, 3), 999);
        Typist.learn(x, 9, 5);
        CHECK.same("13: learnt on the last day", x.ofBook(2, 3), 999);
    }

    private static void whatIsNamedFirst() {
        int[] wrong = {0, 61, -1, Integer.MIN_VALUE, Integer.MAX_VALUE};
        for (int days : wrong) {
            CHECK.leaves("4: pass(" + days + ") on the last day", Scenes::lastDay,
                    "throws.IllegalArgumentException", x -> x.pass(days));
        }
    }

    /** Of a pass that is refused, not even the days that there would be go by. */
    private static void aRefusedPassLetsNoneGo() {
        CHECK.leaves("4: a pass beyond the last day", () -> learntOn(960),
                "throws.IllegalStateException", x -> x.pass(40));
        Putitback x = learntOn(960);
        CHECK.state("4: refused", x, () -> x.pass(60));
        CHECK.same("4: the learnt one is there", x.house(1), 1);
        CHECK.same("4: trust is as it was", x.ofHand(1, 0), 2);
        CHECK.same("4: today, too", x.house(5), 960);
        CHECK.same("4: it goes by 39", x.pass(39), 1);
    }

    // «LEARNT WORDS that were last USED 30 DAYS ago or longer go»

    private static void twentyNineDaysStay() {
        int[] days = {0, 1, 500, 970};
        for (int day : days) {
            Putitback x = learntOn(day);
            CHECK.same("4: 29 at once", x.pass(29), 0);
            CHECK.same("4: it stays", x.house(1), 1);
        }
        Putitback x = learntOn(7);
        for (int i = 0; i < 29; i++) {
            CHECK.same("4: one by one", x.pass(1), 0);
        }
        CHECK.same("4: it stays, one by one", x.ofBook(1, 0), 9);
    }

    private static void thirtyDaysGo() {
        int[] days = {0, 1, 500, 969};
        for (int day : days) {
            Putitback x = learntOn(day);
            CHECK.same("4: 30 at once", x.pass(30), 1);
            CHECK.same("4: it is gone", EdgesOfBookTest.words(x), "5");
            CHECK.same("18: no learnt ones", x.house(1), 0);
        }
        Putitback x = learntOn(7);
        x.pass(29);
        CHECK.same("4: 29 and 1", x.pass(1), 1);
        CHECK.same("4: none is left to go", x.pass(1), 0);
    }

    private static void longerThanThirtyDays() {
        int[] days = {31, 59, 60};
        for (int day : days) {
            CHECK.same("4: longer than 30 days", learntOn(0).pass(day), 1);
        }
    }

    private static void usedLaterStaysLonger() {
        Putitback x = learntOn(0);
        x.pass(29);
        Typist.write(x, 9);
        CHECK.same("4: used by a blank on its last day", x.pass(29), 0);
        Typist.pick(x, 77, 9);
        CHECK.same("4: used by choose on its last day", x.pass(29), 0);
        CHECK.same("4: 30 days after that", x.pass(1), 1);
        Putitback y = learntOn(0);
        y.pass(1);
        Typist.write(y, 9);
        CHECK.same("4: used on the next day", y.pass(29), 0);
        CHECK.same("4: goes a day later, too", y.pass(1), 1);
    }

    private static void givenOnesStay() {
        Putitback x = new Putitback();
        x.give(5, 1);
        for (int i = 0; i < 16; i++) {
            CHECK.same("4: a given one does not go", x.pass(60), 0);
        }
        Putitback y = learntOn(0);
        y.pass(29);
        y.give(9, 1);
        CHECK.same("4: given by now, so it does not go", y.pass(60), 0);
        CHECK.same("4: both are there", EdgesOfBookTest.words(y), "5 9");
    }

    /** Typed, but another word is shown; or shown because it was put back: not used by that. */
    private static void shownButNotUsedGoes() {
        Putitback x = learntOn(0);
        x.pass(29);
        Typist.pick(x, 9, 5);
        x.putBack();
        CHECK.same("4: put back on its last day", x.pass(1), 1);
        CHECK.same("9: it was not learnt again by that", x.house(0), 1);
    }

    private static void learntAgainAfterItWent() {
        Putitback x = learntOn(0);
        x.pass(30);
        Typist.mend(x, 0, 9, 5, 1);
        CHECK.same("9: with a later time", EdgesOfBookTest.words(x), "5 9");
        CHECK.same("9: count 1 again", x.ofBook(1, 1), 1);
        CHECK.same("9: its day", x.ofBook(1, 3), 30);
        CHECK.same("9: put backs are kept for good", x.putBacks(0, 9), 2);
        CHECK.same("4: 29 days from then on", x.pass(29), 0);
        CHECK.same("4: 30 days from then on", x.pass(1), 1);
    }

    private static void theFirstPlaceGoes() {
        Putitback x = learntOn(0);
        x.forget(5);
        x.give(6, 1);
        CHECK.same("4: 29 days", x.pass(29), 0);
        CHECK.same("4: the first place", EdgesOfBookTest.words(x), "9 6");
        CHECK.same("4: 30 days", x.pass(1), 1);
        CHECK.same("4: what is behind it moves", EdgesOfBookTest.words(x), "6");
        Putitback y = learntOn(0);
        y.forget(5);
        CHECK.same("4: the only word", y.pass(30), 1);
        CHECK.same("4: the book is empty", y.house(0), 0);
    }

    private static Putitback threeLearnt(int daysBetween) {
        Putitback x = new Putitback();
        x.give(5, 50);
        int[] words = {9, 99, 999};
        for (int word : words) {
            Typist.learn(x, word, 5);
            if (daysBetween > 0) {
                x.pass(daysBetween);
            }
        }
        return x;
    }

    /** «Returns how many WORDS went by that.» */
    private static void severalGo() {
        CHECK.same("4: none on one day", threeLearnt(0).pass(29), 0);
        CHECK.same("4: all on one day", threeLearnt(0).pass(30), 3);
        CHECK.same("4: all on three days", threeLearnt(1).pass(30), 3);
        CHECK.same("4: all on 29 days more", threeLearnt(1).pass(29), 3);
        CHECK.same("4: two of three", threeLearnt(1).pass(28), 2);
        CHECK.same("4: one of three", threeLearnt(1).pass(27), 1);
        CHECK.same("4: none of three", threeLearnt(1).pass(26), 0);
        CHECK.same("4: two went on the way", threeLearnt(20).house(1), 1);
    }

    private static void whatIsBehindMoves() {
        Putitback x = new Putitback();
        x.give(5, 50);
        Typist.learn(x, 9, 5);
        x.give(1, 7);
        x.pass(10);
        Typist.learn(x, 99, 5);
        x.give(2, 8);
        int[] row = {1, 2, 9, 2, 1, 9, 1, 9, 1};
        x.pass(10);
        for (int word : row) {
            Typist.write(x, word);
        }
        x.send();
        x.pass(1);
        CHECK.same("14: a pair of 1 and 2", x.pair(2, 4), 1);
        CHECK.same("4: the one in the middle", x.pass(19), 1);
        CHECK.same("4: what is behind it moves", EdgesOfBookTest.words(x), "5 9 1 2");
        CHECK.same("4: with its count", x.ofBook(3, 1), 10);
        CHECK.same("4: with its day", x.ofBook(3, 3), 20);
        CHECK.same("4: with its pairs", x.pair(2, 3), 1);
        CHECK.same("4: the other way", x.pair(3, 2), 1);
        CHECK.same("4: with what stays ahead", x.pair(1, 2) * 100 + x.pair(1, 3) * 10 + x.pair(3, 1), 211);
        CHECK.same("4: the used one, 10 days later", x.pass(10), 1);
        CHECK.same("4: what is behind it moves, too", EdgesOfBookTest.words(x), "5 1 2");
        CHECK.same("4: the pair stays", x.pair(1, 2), 1);
        Typist.learn(x, 9, 5);
        CHECK.same("4: behind all", x.ofBook(3, 0), 9);
        for (int i = 0; i < 4; i++) {
            CHECK.same("4: its pairs are gone", x.pair(3, i) + x.pair(i, 3), 0);
        }
    }

    // «TRUST of each HAND is 1 more (3 at most).»

    private static Putitback withoutTrust() {
        Putitback x = new Putitback();
        x.give(5, 50);
        Typist.mend(x, 0, 9, 5, 3);
        Typist.mend(x, 1, 8, 5, 2);
        Typist.mend(x, 2, 7, 5, 1);
        return x;
    }

    private static void trustUpToThree() {
        Putitback x = withoutTrust();
        int[] due = {0, 1, 2, 3, 3, 3};
        for (int trust : due) {
            CHECK.same("16: trust", x.ofHand(0, 0), trust);
            x.pass(1);
        }
        Putitback y = new Putitback();
        y.pass(60);
        CHECK.same("16: 3 at most from the start", y.ofHand(0, 0), 3);
        y.give(5, 1);
        Typist.mend(y, 0, 9, 5, 1);
        CHECK.same("16: so 1 less is 2", y.ofHand(0, 0), 2);
    }

    private static void trustOfEachHandByEachDay() {
        int[][] due = {{0, 1, 2}, {1, 2, 3}, {2, 3, 3}, {3, 3, 3}};
        for (int days = 0; days < 4; days++) {
            Putitback atOnce = withoutTrust();
            Putitback oneByOne = withoutTrust();
            if (days > 0) {
                atOnce.pass(days);
            }
            for (int i = 0; i < days; i++) {
                oneByOne.pass(1);
            }
            for (int hand = 0; hand < 3; hand++) {
                CHECK.same("16: trust at once", atOnce.ofHand(hand, 0), due[days][hand]);
                CHECK.same("16: trust one by one", oneByOne.ofHand(hand, 0), due[days][hand]);
            }
        }
        Putitback x = withoutTrust();
        x.pass(60);
        CHECK.same("16: trust by sixty days", x.ofHand(0, 0) + x.ofHand(1, 0) + x.ofHand(2, 0), 9);
    }
}
