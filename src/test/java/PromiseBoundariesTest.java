import java.util.ArrayList;
import java.util.List;

/** The boundary cases of the promises, a test for each sentence that names one. */
public final class PromiseBoundariesTest extends Sentences {
    private static final int FAST = 0;
    private static final int SLOW = 1;
    private static final int HALVING = 2;
    private static final int STEPPING = 3;

    private static final int DULL = 0;
    private static final int SECRET = 1;

    private static final int PERIOD = 0;
    private static final int PACE = 1;
    private static final int EYE_BOUND = 2;
    private static final int START = 3;
    private static final int LENGTH = 4;
    private static final int BOUND = 5;

    /** What lies beyond a range from 0 to most. */
    private static int[] beyond(int most) {
        return new int[] {-1, most + 1, LOW, HIGH};
    }

    public static void main(String[] args) {
        newObject();
        set();
        setPhosphor();
        light();
        darken();
        exchange();
        sort();
        draw();
        take();
        restore();
        undo();
        append();
        clearText();
        run();
        count();
        spot();
        at();
        brightness();
        firstWrong();
        bestStart();
        leastTravel();
        longest();
        ticks();
        shortestPeriod();
        List<String> promises = new ArrayList<>();
        for (int number = 1; number <= 24; number++) {
            promises.add("Promise " + number);
        }
        finish(promises);
    }

    private static Watched fresh() {
        return Watched.fresh();
    }

    private static Watched lit(int... spots) {
        return Watched.lit(spots);
    }

    /** Twelve spots, from 40 to 51. */
    private static Watched full() {
        return lit(Watched.range(40, 51));
    }

    // ---- Promise 1

    private static void newObject() {
        sentence("Promise 1", "Creates a screen of fast spots, without an order and pictures, with "
            + "an empty text.");
        Watched x = fresh();
        x.order();
        int[] counts = {0, 0, 0, 0, 0, 0, 0, 0, 0, NONE, 0, 0, 0, 60, 1, 20, 0, 4, 60};
        for (int what = 0; what < counts.length; what++) {
            x.count(what).is(counts[what]);
        }
        for (int spot = 0; spot < 64; spot++) {
            x.spot(spot, 0).is(FAST);
            x.spot(spot, 1).is(0);
            x.spot(spot, 2).is(0);
            x.spot(spot, 3).is(NONE);
        }
        x.clearText().is(0);
        x.undo().is(ILLEGAL);
        // One object tells nothing of another.
        Watched other = full();
        other.take(0);
        other.type("x");
        fresh().count(0).is(0);
        fresh().count(10).is(0);
        fresh().count(12).is(0);
        other.count(0).is(12);
    }

    // ---- Promise 2

    private static final int[][] RANGES = {{8, 200, 60}, {1, 4, 1}, {1, 100, 20}, {0, 199, 0},
        {1, 50, 4}, {1, 100, 60}};

    private static void set() {
        settingsFromZeroToFive();
        valuesOfEachSetting();
        previousValues();
    }

    private static void settingsFromZeroToFive() {
        sentence("Promise 2", "`what`: 0 the period, 1 the pace, 2 the eye's bound, 3 the start, 4 "
            + "the length and 5 the bound of the shutter");
        Watched x = fresh();
        for (int what : beyond(5)) {
            for (int value : new int[] {1, 10, 60, 0, -1}) {
                x.set(what, value).is(INVALID);
            }
        }
        x.settings(60, 1, 20, 0, 4, 60);
        x.count(11).is(0);
        x.set(0, 61).is(60);
        x.set(5, 59).is(60);
        x.settings(61, 1, 20, 0, 4, 59);
        x.count(11).is(2);
    }

    private static void valuesOfEachSetting() {
        sentence("Promise 2", "INVALID_ARGUMENT if an argument is out of range.");
        for (int what = 0; what < 6; what++) {
            int[] range = RANGES[what];
            Watched x = fresh();
            for (int value : new int[] {range[0] - 1, range[1] + 1, LOW, HIGH}) {
                x.set(what, value).is(INVALID);
                x.count(13 + what).is(range[2]);
            }
            x.count(11).is(0);
            x.set(what, range[0]).is(range[2]);
            x.set(what, range[0] - 1).is(INVALID);
            x.count(13 + what).is(range[0]);
            x.set(what, range[1]).is(range[0]);
            x.set(what, range[1] + 1).is(INVALID);
            x.count(13 + what).is(range[1]);
            x.count(11).is(2);
        }
    }

    private static void previousValues() {
        sentence("Promise 2", "Returns the previous value");
        Watched x = fresh();
        for (int what = 0; what < 6; what++) {
            int[] range = RANGES[what];
            x.set(what, range[1]).is(range[2]);
            x.set(what, range[1]).is(range[1]);
            x.set(what, range[0]).is(range[1]);
            x.set(what, range[0]).is(range[0]);
        }
        x.settings(8, 1, 1, 0, 1, 1);
    }

    // ---- Promise 3

    private static void setPhosphor() {
        spotsWithAPhosphor();
        phosphorsFromZeroToThree();
        previousPhosphors();
    }

    private static void spotsWithAPhosphor() {
        sentence("Promise 3", "`spot`: 0 to 63");
        Watched x = fresh();
        x.setPhosphor(0, STEPPING).is(FAST);
        x.setPhosphor(63, HALVING).is(FAST);
        for (int none : beyond(63)) {
            x.setPhosphor(none, SLOW).is(INVALID);
        }
        x.spot(0, 0).is(STEPPING);
        x.spot(63, 0).is(HALVING);
        for (int spot = 1; spot < 63; spot++) {
            x.spot(spot, 0).is(FAST);
        }
        x.count(11).is(2);
    }

    private static void phosphorsFromZeroToThree() {
        sentence("Promise 3", "`phosphor`: 0 to 3");
        Watched x = fresh();
        x.setPhosphor(63, HALVING).is(FAST);
        for (int none : beyond(3)) {
            x.setPhosphor(63, none).is(INVALID);
            x.setPhosphor(64, none).is(INVALID);
        }
        x.spot(63, 0).is(HALVING);
        x.count(11).is(1);
        for (int phosphor = 0; phosphor < 4; phosphor++) {
            x.setPhosphor(5, phosphor);
            x.spot(5, 0).is(phosphor);
        }
    }

    private static void previousPhosphors() {
        sentence("Promise 3", "Returns the previous phosphor");
        Watched x = fresh();
        x.setPhosphor(0, STEPPING).is(FAST);
        x.setPhosphor(0, STEPPING).is(STEPPING);
        x.setPhosphor(0, FAST).is(STEPPING);
        x.setPhosphor(0, FAST).is(FAST);
        x.setPhosphor(63, SLOW).is(FAST);
        x.setPhosphor(63, FAST).is(SLOW);
    }

    // ---- Promise 4

    private static void light() {
        lightAtTheEnd();
        lightOfNoSpot();
        lightOfASpotInTheOrder();
        lightOfTheThirteenth();
    }

    private static void lightAtTheEnd() {
        sentence("Promise 4", "Adds a spot at the end of the order.");
        Watched x = fresh();
        x.light(63).is(0);
        x.light(0).is(1);
        x.light(31).is(2);
        x.order(63, 0, 31);
    }

    private static void lightOfNoSpot() {
        sentence("Promise 4", "INVALID_ARGUMENT if spot is out of range");
        Watched x = lit(63, 0, 31);
        for (int none : beyond(63)) {
            fresh().light(none).is(INVALID);
            x.light(none).is(INVALID);
            full().light(none).is(INVALID);
        }
        x.order(63, 0, 31);
        x.count(11).is(3);
    }

    private static void lightOfASpotInTheOrder() {
        sentence("Promise 4", "ILLEGAL_STATE if it is in the order");
        Watched x = lit(63, 0, 31);
        x.light(63).is(ILLEGAL);
        x.light(0).is(ILLEGAL);
        x.light(31).is(ILLEGAL);
        x.order(63, 0, 31);
        x.darken(31).is(2);
        x.light(31).is(2);
        // Also if it stays dark, and if there is no room for another one.
        x.set(PERIOD, 8);
        x.spot(63, 4).is(NONE);
        x.light(63).is(ILLEGAL);
        full().light(40).is(ILLEGAL);
        full().light(51).is(ILLEGAL);
    }

    private static void lightOfTheThirteenth() {
        sentence("Promise 4", "CAPACITY_EXCEEDED if there are 12.");
        Watched x = lit(Watched.range(40, 50));
        x.light(0).is(11);
        x.light(1).is(NO_ROOM);
        x.light(63).is(NO_ROOM);
        x.count(0).is(12);
        x.darken(0).is(11);
        x.light(1).is(11);
        x.light(0).is(NO_ROOM);
        // Dark ones take room as well.
        x.set(PERIOD, 8);
        x.count(1).is(1);
        x.light(0).is(NO_ROOM);
    }

    // ---- Promise 5

    private static void darken() {
        darkenAtBothEnds();
        darkenOfNoSpot();
        darkenOfASpotNotInTheOrder();
        positionsOfTheDarkened();
    }

    private static void darkenAtBothEnds() {
        sentence("Promise 5", "Removes a spot from the order; those behind it move up by one.");
        Watched x = full();
        x.darken(51).is(11);
        x.order(Watched.range(40, 50));
        x.darken(40).is(0);
        x.order(Watched.range(41, 50));
        x.darken(45).is(4);
        x.order(41, 42, 43, 44, 46, 47, 48, 49, 50);
        x = lit(63);
        x.darken(63).is(0);
        x.order();
        x.spot(63, 3).is(NONE);
    }

    private static void darkenOfNoSpot() {
        sentence("Promise 5", "INVALID_ARGUMENT if spot is out of range");
        for (int none : beyond(63)) {
            fresh().darken(none).is(INVALID);
            full().darken(none).is(INVALID);
        }
    }

    private static void darkenOfASpotNotInTheOrder() {
        sentence("Promise 5", "ILLEGAL_STATE if it is not in the order.");
        fresh().darken(0).is(ILLEGAL);
        Watched x = full();
        x.darken(39).is(ILLEGAL);
        x.darken(52).is(ILLEGAL);
        x.darken(0).is(ILLEGAL);
        x.darken(63).is(ILLEGAL);
        x.order(Watched.range(40, 51));
        // Behind the last spot of the order there is none, not even an old one.
        x.darken(51).is(11);
        x.darken(51).is(ILLEGAL);
        x = lit(0);
        x.darken(0).is(0);
        x.darken(0).is(ILLEGAL);
    }

    private static void positionsOfTheDarkened() {
        sentence("Promise 5", "Returns the position that it had");
        Watched x = full();
        for (int spot = 40; spot < 52; spot++) {
            x.darken(spot).is(0);
        }
        x.order();
        x = full();
        for (int spot = 51; spot >= 40; spot--) {
            x.darken(spot).is(spot - 40);
        }
        x.order();
    }

    // ---- Promise 6

    private static void exchange() {
        exchangeOfTheSame();
        exchangeOfBothEnds();
        exchangeOfNoPositions();
        litWhenExchanged();
    }

    private static void exchangeOfTheSame() {
        sentence("Promise 6", "`other`: a position, perhaps the same");
        Watched x = full();
        x.exchange(0, 0).is(12);
        x.exchange(11, 11).is(12);
        x.order(Watched.range(40, 51));
        x = lit(5);
        x.exchange(0, 0).is(1);
        x.order(5);
        x.count(11).is(2);
    }

    private static void exchangeOfBothEnds() {
        sentence("Promise 6", "Exchanges two spots of the order.");
        Watched x = full();
        x.exchange(0, 11).is(12);
        x.order(51, 41, 42, 43, 44, 45, 46, 47, 48, 49, 50, 40);
        x.exchange(11, 0).is(12);
        x.exchange(10, 11).is(12);
        x.order(40, 41, 42, 43, 44, 45, 46, 47, 48, 49, 51, 50);
    }

    private static void exchangeOfNoPositions() {
        sentence("Promise 6", "INVALID_ARGUMENT if there are no such positions.");
        Watched x = full();
        for (int none : beyond(11)) {
            x.exchange(none, 0).is(INVALID);
            x.exchange(0, none).is(INVALID);
            x.exchange(none, none).is(INVALID);
        }
        x.order(Watched.range(40, 51));
        fresh().exchange(0, 0).is(INVALID);
        lit(5).exchange(0, 1).is(INVALID);
        lit(5).exchange(1, 0).is(INVALID);
        x = lit(5, 6);
        x.darken(6);
        x.exchange(0, 1).is(INVALID);
    }

    private static void litWhenExchanged() {
        sentence("Promise 6", "Returns how many spots are lit then");
        // 1 would be lit at 2, 63 at 16; 63 first is lit at 15, and then 1 at 29.
        Watched x = lit(1, 63);
        x.set(PERIOD, 16);
        x.exchange(0, 0).is(1);
        x.exchange(0, 1).is(1);
        x.set(PERIOD, 15);
        x.exchange(0, 0).is(0);
        x.exchange(0, 1).is(1);
        x.set(PERIOD, 29);
        x.exchange(0, 1).is(1);
        x.set(PERIOD, 30);
        x.exchange(0, 0).is(2);
    }

    // ---- Promise 7

    private static void sort() {
        rulesFromZeroToThree();
        sortingNothingAndAll();
        sortingByNumbers();
        sortingBySecretAndWay();
        sortingByFading();
        sortingByNearness();
        litWhenSorted();
    }

    private static void rulesFromZeroToThree() {
        sentence("Promise 7", "INVALID_ARGUMENT if rule is out of range.");
        Watched x = lit(9, 2);
        for (int none : beyond(3)) {
            x.sort(none).is(INVALID);
            fresh().sort(none).is(INVALID);
        }
        x.order(9, 2);
        x.count(11).is(2);
        x.sort(3).is(2);
        x.order(2, 9);
        x.sort(0).is(2);
        x.count(11).is(4);
    }

    private static void sortingNothingAndAll() {
        sentence("Promise 7", "Sorts the order.");
        for (int rule = 0; rule < 4; rule++) {
            Watched x = fresh();
            x.sort(rule).is(0);
            x.count(11).is(1);
            x = lit(63);
            x.sort(rule).is(1);
            x.order(63);
        }
        // Twelve, the last one first, so that each moves.
        int[] back = {51, 50, 49, 48, 47, 46, 45, 44, 43, 42, 41, 40};
        for (int rule = 0; rule < 3; rule++) {
            Watched x = lit(back);
            x.draw(SECRET, 40, 1);
            x.setPhosphor(51, STEPPING);
            x.sort(rule);
            int[] numbers = Watched.range(40, 51);
            // By the way from 0: 40 and 48 to 47 and 55 have 5 and 6 up to 12.
            int[] ways = {41, 48, 42, 49, 43, 50, 44, 51, 45, 46, 47, 40};
            x.order(rule == 1 ? ways : numbers);
        }
        Watched x = lit(back);
        x.sort(3);
        // From 40, 41 and 48 are as near: the smaller one; at the row's end the row below.
        x.order(40, 41, 42, 43, 44, 45, 46, 47, 51, 50, 49, 48);
    }

    private static void sortingByNumbers() {
        sentence("Promise 7", "0 by numbers");
        Watched x = lit(63, 8, 0, 7, 62);
        x.sort(0);
        x.order(0, 7, 8, 62, 63);
    }

    private static void sortingBySecretAndWay() {
        sentence("Promise 7", "1 those that are not in the secret picture first, then by the way "
            + "from spot 0, the shortest first, then by numbers");
        // The farthest of the others comes before the nearest secret one.
        Watched x = lit(0, 63, 8, 1);
        x.draw(SECRET, 0, 1);
        x.draw(SECRET, 1, 1);
        x.draw(DULL, 63, 1);
        x.sort(1);
        x.order(8, 63, 0, 1);
        // The way counts ahead of the number, also from one row to the next; of the same, numbers.
        x = lit(7, 56, 16, 9, 2, 15, 8);
        x.sort(1);
        x.order(8, 2, 9, 16, 7, 56, 15);
        for (int spot : new int[] {7, 56, 16, 9, 2, 15, 8}) {
            x.draw(SECRET, spot, 1);
        }
        x.sort(0);
        x.sort(1);
        x.order(8, 2, 9, 16, 7, 56, 15);
    }

    private static void sortingByFading() {
        sentence("Promise 7", "2 by the first tick in which their brightness would be 0 if they "
            + "were lit at tick 0 for once, the earliest first, then by numbers");
        // 5 for fast, 8 for stepping, 25 for slow and 35 for halving ones.
        Watched x = lit(0, 1, 2, 3, 60, 61, 62, 63);
        int[] kinds = {HALVING, SLOW, STEPPING, FAST};
        for (int i = 0; i < 4; i++) {
            x.setPhosphor(i, kinds[i]);
            x.setPhosphor(63 - i, kinds[i]);
        }
        x.sort(2);
        x.order(3, 60, 2, 61, 1, 62, 0, 63);
        // Only for once: in frames of 8 ticks a stepping or a slow one is never at 0.
        x.set(PERIOD, 8);
        x.sort(0);
        x.sort(2);
        x.order(3, 60, 2, 61, 1, 62, 0, 63);
    }

    private static void sortingByNearness() {
        sentence("Promise 7", "3 always the spot that is nearest to the one before it (to spot 0 "
            + "at first), of several that with the smallest number");
        Watched x = lit(16, 2, 9);
        x.sort(3);
        x.order(2, 9, 16);
        x = lit(8, 7, 15);
        x.sort(3);
        // 8 is nearest to 0; from there 15 has 7 ways and 7 has 8.
        x.order(8, 15, 7);
        x = lit(63, 0);
        x.sort(3);
        x.order(0, 63);
        // Nearest to the one before, not to spot 0.
        x = lit(3, 24, 4, 5, 6);
        x.sort(3);
        x.order(3, 4, 5, 6, 24);
    }

    private static void litWhenSorted() {
        sentence("Promise 7", "Returns how many spots are lit then");
        Watched x = lit(63, 62);
        x.set(PERIOD, 15);
        x.count(1).is(0);
        // 62 is lit at 14, and 63 at 16.
        x.sort(0).is(1);
        x.order(62, 63);
        x.set(PERIOD, 14);
        x.sort(0).is(0);
        x.set(PERIOD, 17);
        x.sort(0).is(2);
        full().sort(0).is(12);
    }

    // ---- Promise 8

    private static void draw() {
        drawIntoBothPictures();
        drawOfEachSpot();
        drawInAndOut();
        sizesOfAPicture();
    }

    private static void drawIntoBothPictures() {
        sentence("Promise 8", "`picture`: 0 the dull one, 1 the secret one");
        Watched x = fresh();
        for (int none : beyond(1)) {
            x.draw(none, 0, 1).is(INVALID);
            x.draw(none, 0, 0).is(INVALID);
        }
        x.count(11).is(0);
        x.draw(DULL, 0, 1).is(1);
        x.count(3).is(0);
        x.draw(SECRET, 1, 1).is(1);
        x.draw(SECRET, 2, 1).is(2);
        x.count(2).is(1);
    }

    private static void drawOfEachSpot() {
        sentence("Promise 8", "`spot`: 0 to 63");
        Watched x = fresh();
        for (int none : beyond(63)) {
            x.draw(DULL, none, 1).is(INVALID);
            x.draw(SECRET, none, 0).is(INVALID);
        }
        x.draw(DULL, 0, 1).is(1);
        x.draw(DULL, 63, 1).is(2);
        // On both sides of the middle: each spot is one of its own.
        x.draw(DULL, 31, 1).is(3);
        x.draw(DULL, 32, 1).is(4);
        x.draw(DULL, 0, 0).is(3);
        x.spot(0, 1).is(0);
        x.spot(31, 1).is(1);
        x.spot(32, 1).is(1);
        x.spot(63, 1).is(1);
    }

    private static void drawInAndOut() {
        sentence("Promise 8", "`is`: 1 if it is in the picture then, 0 if not");
        Watched x = fresh();
        x.draw(DULL, 63, 1).is(1);
        for (int none : beyond(1)) {
            x.draw(DULL, 63, none).is(INVALID);
            x.draw(DULL, 5, none).is(INVALID);
        }
        x.spot(63, 1).is(1);
        x.spot(5, 1).is(0);
        x.draw(DULL, 63, 0).is(0);
        x.spot(63, 1).is(0);
    }

    private static void sizesOfAPicture() {
        sentence("Promise 8", "Returns the number of spots of the picture then");
        Watched x = fresh();
        x.draw(DULL, 0, 0).is(0);
        for (int spot = 0; spot < 64; spot++) {
            x.draw(DULL, spot, 1).is(spot + 1);
        }
        x.draw(DULL, 63, 1).is(64);
        for (int spot = 63; spot >= 0; spot--) {
            x.draw(DULL, spot, 0).is(spot);
        }
        x.draw(DULL, 0, 0).is(0);
    }

    // ---- Promise 9

    private static void take() {
        takeIntoBothSlots();
        takeInPlaceOfAnother();
        sizesOfTakenOrders();
    }

    private static void takeIntoBothSlots() {
        sentence("Promise 9", "INVALID_ARGUMENT if slot is out of range.");
        Watched x = full();
        for (int none : beyond(1)) {
            x.take(none).is(INVALID);
        }
        x.count(10).is(0);
        x.take(0).is(12);
        x.count(10).is(1);
        x.take(1).is(12);
        x.count(10).is(2);
    }

    private static void takeInPlaceOfAnother() {
        sentence("Promise 9", "Takes a snapshot, in place of one that is there.");
        Watched x = full();
        x.take(0).is(12);
        x.take(1).is(12);
        x.darken(40);
        x.take(0).is(11);
        x.count(10).is(2);
        x.darken(41);
        x.restore(0).is(11);
        x.order(Watched.range(41, 51));
        x.restore(1).is(12);
        x.order(Watched.range(40, 51));
    }

    private static void sizesOfTakenOrders() {
        sentence("Promise 9", "Returns the number of spots in the order");
        fresh().take(1).is(0);
        // The dark ones, too.
        Watched x = full();
        x.set(PERIOD, 8);
        x.count(1).is(1);
        x.take(0).is(12);
    }

    // ---- Promise 10

    private static void restore() {
        restoreOfNoSlot();
        restoreOfAnEmptySlot();
        restoredSnapshotsStay();
        sizesOfRestoredOrders();
    }

    private static void restoreOfNoSlot() {
        sentence("Promise 10", "INVALID_ARGUMENT if slot is out of range");
        Watched x = full();
        x.take(0);
        x.take(1);
        for (int none : beyond(1)) {
            x.restore(none).is(INVALID);
            fresh().restore(none).is(INVALID);
        }
    }

    private static void restoreOfAnEmptySlot() {
        sentence("Promise 10", "ILLEGAL_STATE if the slot is empty.");
        for (int slot = 0; slot < 2; slot++) {
            Watched x = full();
            x.restore(slot).is(ILLEGAL);
            x.take(1 - slot).is(12);
            x.restore(slot).is(ILLEGAL);
            x.order(Watched.range(40, 51));
            x.undo().is(4);
            x.restore(1 - slot).is(ILLEGAL);
        }
    }

    private static void restoredSnapshotsStay() {
        sentence("Promise 10", "Restores a snapshot, which stays.");
        Watched x = lit(5);
        x.take(0);
        for (int i = 0; i < 3; i++) {
            x.light(6 + i);
            x.restore(0).is(1);
            x.order(5);
            x.count(10).is(1);
        }
        // It stays as it is, whatever is done to what was restored.
        x.set(PERIOD, 9);
        x.setPhosphor(5, SLOW);
        x.draw(DULL, 5, 1);
        x.darken(5);
        x.restore(0).is(1);
        x.order(5);
        x.count(13).is(60);
        x.spot(5, 0).is(FAST);
        x.count(2).is(0);
    }

    private static void sizesOfRestoredOrders() {
        sentence("Promise 10", "Returns the number of spots in the order then");
        Watched x = fresh();
        x.take(0);
        for (int spot = 0; spot < 12; spot++) {
            x.light(spot);
        }
        x.take(1).is(12);
        x.restore(0).is(0);
        x.restore(1).is(12);
    }

    // ---- Promise 11

    private static void undo() {
        undoOfNothing();
        statesThatAreLeft();
        latestStateIsRemoved();
    }

    private static void undoOfNothing() {
        sentence("Promise 11", "ILLEGAL_STATE if it is empty.");
        Watched x = fresh();
        x.undo().is(ILLEGAL);
        x.light(5);
        x.undo().is(0);
        x.undo().is(ILLEGAL);
        x.undo().is(ILLEGAL);
        x.count(0).is(0);
    }

    private static void statesThatAreLeft() {
        sentence("Promise 11", "Returns the number of states that are left in the history");
        Watched x = full();
        for (int left = 4; left >= 0; left--) {
            x.undo().is(left);
        }
        x.undo().is(ILLEGAL);
        x.order(Watched.range(40, 46));
    }

    private static void latestStateIsRemoved() {
        sentence("Promise 11", "Removes the latest state from the history and restores it.");
        // It is no action: what it undoes is gone, and an action in its place is recorded.
        Watched x = lit(1, 2);
        x.undo().is(1);
        x.light(3).is(1);
        x.count(11).is(2);
        x.undo().is(1);
        x.order(1);
        x.undo().is(0);
        x.order();
    }

    // ---- Promise 12

    private static void append() {
        characterCodes();
        charactersBehind140();
        lengthsOfTheText();
    }

    private static void characterCodes() {
        sentence("Promise 12", "`character`: character code, 1 to 255");
        Watched x = fresh();
        for (int none : new int[] {0, -1, 256, 257, 315, LOW, HIGH, 65536 + 59}) {
            x.append(none).is(INVALID);
        }
        x.count(12).is(0);
        for (int code = 1; code < 256; code++) {
            x.append(code).is(code < 128 ? code : code - 127);
            if (code == 127) {
                x.clearText().is(127);
            }
        }
    }

    private static void charactersBehind140() {
        sentence("Promise 12", "CAPACITY_EXCEEDED if the text already has 140 characters.");
        Watched x = fresh();
        for (int length = 1; length <= 140; length++) {
            x.append(' ').is(length);
        }
        x.append(' ').is(NO_ROOM);
        x.append(1).is(NO_ROOM);
        x.append(255).is(NO_ROOM);
        x.append(0).is(INVALID);
        x.append(256).is(INVALID);
        x.count(12).is(140);
    }

    private static void lengthsOfTheText() {
        sentence("Promise 12", "Returns the new length of the text");
        // A text that was emptied begins anew, by clearText() as by run().
        Watched x = fresh();
        x.type(" ".repeat(140));
        x.run().is(0);
        x.append('a').is(1);
        x.clearText().is(1);
        x.append('b').is(1);
        x.append('c').is(2);
        // One that failed goes on.
        x.run().is(-1000);
        x.append('d').is(3);
        x.count(11).is(1);
    }

    // ---- Promise 13

    private static void clearText() {
        clearedTexts();
        lengthsOfClearedTexts();
    }

    private static void clearedTexts() {
        sentence("Promise 13", "Makes the text empty.");
        Watched x = fresh();
        x.type("light 5;");
        x.clearText().is(8);
        x.count(12).is(0);
        x.run().is(0);
        x.order();
        // Nothing of the old text stands behind a new and shorter one.
        x.type("light 12;");
        x.clearText().is(9);
        x.runs("light 1").is(-1007);
        x.clearText().is(7);
        x.runs("ligh").is(-1000);
        x.clearText().is(4);
        x.order();
    }

    private static void lengthsOfClearedTexts() {
        sentence("Promise 13", "Returns the previous length of the text.");
        Watched x = fresh();
        x.clearText().is(0);
        x.clearText().is(0);
        x.type(" ".repeat(140));
        x.clearText().is(140);
        x.clearText().is(0);
        x.append(1).is(1);
        x.clearText().is(1);
    }

    // ---- Promise 14

    private static void run() {
        runAsOneAction();
        failedTextsAreKept();
        numbersOfCommands();
        placesOfFailures();
    }

    private static void runAsOneAction() {
        sentence("Promise 14", "If it does not fail, this is one action, also without commands, "
            + "and the text becomes empty");
        Watched x = fresh();
        x.run().is(0);
        x.count(11).is(1);
        x.runs("light 5;light 6;light 7;").is(3);
        x.count(11).is(2);
        x.count(12).is(0);
        x.order(5, 6, 7);
        x.undo().is(1);
        x.order();
        x.undo().is(0);
        x.undo().is(ILLEGAL);
        // Of a full history it drops one state, whatever the number of its commands.
        x = lit(1, 2, 3, 4, 5);
        x.runs("light 6;light 7;dark 1;").is(3);
        x.count(11).is(5);
        for (int left = 4; left >= 0; left--) {
            x.undo().is(left);
            x.count(0).is(left + 1);
        }
        x.undo().is(ILLEGAL);
    }

    private static void failedTextsAreKept() {
        sentence("Promise 14", "if it fails, the text is kept.");
        Watched x = fresh();
        x.runs("dark 5;").is(-1000);
        x.count(12).is(7);
        x.count(11).is(0);
        x.run().is(-1000);
        x.light(5);
        // The same text does not fail where the spot is in the order.
        x.run().is(1);
        x.count(12).is(0);
        x.order();
    }

    private static void numbersOfCommands() {
        sentence("Promise 14", "Returns the number of commands");
        Watched.programIs("", 0);
        Watched.programIs(" ".repeat(140), 0);
        Watched.programIs("sort0;", 1);
        Watched.programIs("sort0;".repeat(23) + "  ", 23);
    }

    private static void placesOfFailures() {
        sentence("Promise 14", "-1000 minus the place of the failure if it fails.");
        Watched.programIs("x", -1000);
        Watched.programIs("sort0;x", -1006);
        Watched.programIs("sort0;sort9;", -1006);
        Watched.programIs(" ".repeat(139) + "x", -1139);
        Watched.programIs(" ".repeat(135) + "sort9", -1140);
        Watched.programIs(" ".repeat(134) + "sort9;", -1134);
    }

    // ---- Promise 15

    private static void count() {
        numbersFromZeroTo18();
        countsOfSpots();
        countsOfPictures();
        countsOfSeenSpots();
        sumOfAllWays();
        lastTick();
        countsOfSnapshotsStatesAndText();
    }

    private static void numbersFromZeroTo18() {
        sentence("Promise 15", "INVALID_ARGUMENT if what is out of range.");
        Watched x = fresh();
        for (int none : beyond(18)) {
            x.count(none).is(INVALID);
        }
        x.count(0).is(0);
        x.count(18).is(60);
    }

    private static void countsOfSpots() {
        sentence("Promise 15", "0 the number of spots in the order, 1 of spots that are lit");
        fresh().count(0).is(0);
        fresh().count(1).is(0);
        // All are lit, and then, in ever shorter frames, fewer: 40 at 6, 41 at 8, 47 at 20.
        Watched x = full();
        x.count(0).is(12);
        x.count(1).is(12);
        int[][] periods = {{21, 8}, {20, 7}, {9, 2}, {8, 1}};
        for (int[] period : periods) {
            x.set(PERIOD, period[0]);
            x.count(1).is(period[1]);
            x.count(0).is(12);
        }
        x.set(PACE, 4);
        x.count(1).is(0);
        x.count(0).is(12);
    }

    private static void countsOfPictures() {
        sentence("Promise 15", "2 of spots of the dull picture, 3 of the secret picture");
        Watched x = fresh();
        for (int spot = 0; spot < 64; spot++) {
            x.draw(DULL, spot, 1);
            x.draw(SECRET, 63 - spot, 1);
            x.draw(SECRET, 0, 0);
        }
        x.count(2).is(64);
        x.count(3).is(63);
        x.count(6).is(64);
        x.count(7).is(63);
    }

    private static void countsOfSeenSpots() {
        sentence("Promise 15", "4 of spots that the eye sees, 5 that the shutter sees, 6 that are "
            + "wrong for the eye, 7 that are wrong for the shutter");
        // All twelve are seen in a frame of 50 ticks, with 300 by 50; with 7 none is.
        Watched x = full();
        x.set(PERIOD, 50);
        x.set(LENGTH, 50);
        int[][] bounds = {{1, 12}, {6, 12}, {7, 0}, {100, 0}};
        for (int[] bound : bounds) {
            x.set(EYE_BOUND, bound[0]);
            x.set(BOUND, bound[0]);
            x.count(4).is(bound[1]);
            x.count(5).is(bound[1]);
            x.count(6).is(bound[1]);
            x.count(7).is(bound[1]);
        }
        x.set(EYE_BOUND, 6);
        x.set(BOUND, 6);
        for (int spot = 40; spot < 52; spot++) {
            x.draw(DULL, spot, 1);
            x.draw(SECRET, spot, 1);
            x.count(6).is(51 - spot);
            x.count(7).is(51 - spot);
        }
        // And all 64: nothing is seen, all is in the pictures.
        x = fresh();
        for (int spot = 0; spot < 64; spot++) {
            x.draw(DULL, spot, 1);
            x.draw(SECRET, spot, 1);
            x.count(6).is(spot + 1);
            x.count(7).is(spot + 1);
        }
    }

    private static void sumOfAllWays() {
        sentence("Promise 15", "8 the sum of all ways of the whole order");
        fresh().count(8).is(0);
        lit(0).count(8).is(0);
        lit(63).count(8).is(14);
        // To and fro; the dark ones have their ways, and the pace has no part in it.
        Watched x = lit(63, 0, 62, 1, 61, 2, 60, 3, 59, 4, 58, 5);
        x.count(8).is(125);
        x.set(PACE, 4);
        x.set(PERIOD, 8);
        x.count(1).is(0);
        x.count(8).is(125);
    }

    private static void lastTick() {
        sentence("Promise 15", "9 the tick in which the last spot is lit (NONE if none is lit)");
        fresh().count(9).is(NONE);
        lit(0).count(9).is(1);
        // The last one that is lit, not the last one of the order: 1 at 2, 63 at 16.
        Watched x = lit(1, 63);
        x.count(9).is(16);
        x.set(PERIOD, 17);
        x.count(9).is(16);
        x.set(PERIOD, 16);
        x.count(9).is(2);
        x.darken(1);
        x.set(PERIOD, 15);
        x.count(9).is(NONE);
        x = lit(63, 0, 7, 6, 5, 4, 57);
        x.set(PACE, 4);
        x.set(PERIOD, 200);
        x.count(9).is(199);
    }

    private static void countsOfSnapshotsStatesAndText() {
        sentence("Promise 15", "10 the number of snapshots, 11 of states in the history, 12 the "
            + "length of the text, 13 to 18 the settings 0 to 5");
        Watched x = fresh();
        x.take(1);
        x.count(10).is(1);
        x.take(0);
        x.count(10).is(2);
        x.take(0);
        x.count(10).is(2);
        x.count(11).is(3);
        x.take(0);
        x.take(0);
        x.count(11).is(5);
        x.take(0);
        x.count(11).is(5);
        x.count(12).is(0);
        x.type(" ".repeat(140));
        x.count(12).is(140);
        for (int what = 0; what < 6; what++) {
            x.set(what, RANGES[what][0]);
            x.count(13 + what).is(RANGES[what][0]);
            x.set(what, RANGES[what][1]);
            x.count(13 + what).is(RANGES[what][1]);
        }
    }

    // ---- Promise 16

    private static void spot() {
        spotsFromZeroTo63();
        propertiesFromZeroToNine();
        phosphorAndPicturesOfASpot();
        positionOfASpot();
        tickOfASpot();
        whatIsSeenOfASpot();
    }

    private static void spotsFromZeroTo63() {
        sentence("Promise 16", "`spot`: 0 to 63");
        Watched x = lit(0, 63);
        for (int none : beyond(63)) {
            for (int what = 0; what < 10; what++) {
                x.spot(none, what).is(INVALID);
            }
            x.spot(none, 10).is(INVALID);
        }
        x.spot(0, 3).is(0);
        x.spot(63, 3).is(1);
    }

    private static void propertiesFromZeroToNine() {
        sentence("Promise 16", "INVALID_ARGUMENT if an argument is out of range.");
        Watched x = lit(0, 63);
        for (int none : beyond(9)) {
            x.spot(0, none).is(INVALID);
            x.spot(5, none).is(INVALID);
        }
        x.spot(0, 0).is(0);
        x.spot(0, 9).is(100);
    }

    private static void phosphorAndPicturesOfASpot() {
        sentence("Promise 16", "0 its phosphor, 1 1 if it is in the dull picture and 0 if not, 2 "
            + "likewise for the secret one");
        Watched x = fresh();
        x.setPhosphor(63, STEPPING);
        x.draw(DULL, 63, 1);
        x.draw(SECRET, 0, 1);
        int[][] properties = {{0, 0, 0, 1}, {63, 3, 1, 0}, {5, 0, 0, 0}, {62, 0, 0, 0}};
        for (int[] p : properties) {
            for (int what = 0; what < 3; what++) {
                x.spot(p[0], what).is(p[1 + what]);
            }
        }
    }

    private static void positionOfASpot() {
        sentence("Promise 16", "3 its position in the order (NONE if it is not in it)");
        fresh().spot(0, 3).is(NONE);
        Watched x = full();
        x.spot(40, 3).is(0);
        x.spot(51, 3).is(11);
        x.spot(39, 3).is(NONE);
        x.spot(52, 3).is(NONE);
        x.darken(40);
        x.spot(40, 3).is(NONE);
        x.spot(51, 3).is(10);
    }

    private static void tickOfASpot() {
        sentence("Promise 16", "4 the tick in which it is lit (NONE if it is not lit)");
        fresh().spot(0, 4).is(NONE);
        lit(0).spot(0, 4).is(1);
        // 63 is due at tick 15; where it is dark it still has its position.
        Watched x = lit(63);
        x.set(PERIOD, 16);
        x.spot(63, 4).is(15);
        x.set(PERIOD, 15);
        x.spot(63, 4).is(NONE);
        x.spot(63, 3).is(0);
    }

    private static void whatIsSeenOfASpot() {
        sentence("Promise 16", "5 1 if the eye sees it and 0 if not, 6 likewise for the shutter, 7 "
            + "the mean for the eye, rounded down, 8 the mean for the shutter, rounded down, 9 its "
            + "flicker");
        // Dark: nothing of it is seen, though a bound is but 1.
        Watched x = lit(63);
        x.set(PERIOD, 15);
        x.set(EYE_BOUND, 1);
        x.set(BOUND, 1);
        for (int what = 5; what < 10; what++) {
            x.spot(63, what).is(0);
            x.spot(5, what).is(0);
        }
        // Without an end at 100: it is seen by all, and does not flicker.
        x = lit(0);
        x.set(PERIOD, 8);
        x.set(EYE_BOUND, 100);
        x.set(BOUND, 100);
        x.setPhosphor(0, STEPPING);
        int[] all = {1, 1, 100, 100, 0};
        for (int what = 5; what < 10; what++) {
            x.spot(0, what).is(all[what - 5]);
        }
        // 800 by 9 are 88 and a rest; three times 100 and once nothing, at tick 0, are 75.
        x.set(PERIOD, 9);
        x.set(START, 6);
        int[] most = {0, 0, 88, 75, 100};
        for (int what = 5; what < 10; what++) {
            x.spot(0, what).is(most[what - 5]);
        }
    }

    // ---- Promise 17

    private static void at() {
        negativePositions();
        positionsBehindTheLast();
        spotsAtPositions();
    }

    private static void negativePositions() {
        sentence("Promise 17", "INVALID_ARGUMENT if position is negative");
        for (int none : new int[] {-1, -2, NONE, LOW}) {
            full().at(none).is(INVALID);
            fresh().at(none).is(INVALID);
        }
    }

    private static void positionsBehindTheLast() {
        sentence("Promise 17", "NONE if there are not so many.");
        fresh().at(0).is(NONE);
        fresh().at(11).is(NONE);
        lit(63).at(1).is(NONE);
        Watched x = full();
        x.at(11).is(51);
        x.at(12).is(NONE);
        x.at(13).is(NONE);
        x.at(HIGH).is(NONE);
        x.darken(51);
        x.at(11).is(NONE);
        x.at(10).is(50);
    }

    private static void spotsAtPositions() {
        sentence("Promise 17", "Returns the spot");
        lit(0).at(0).is(0);
        lit(63).at(0).is(63);
        // Dark ones are at their positions, too.
        Watched x = full();
        x.set(PERIOD, 8);
        x.count(1).is(1);
        x.at(0).is(40);
        x.at(11).is(51);
    }

    // ---- Promise 18

    private static void brightness() {
        brightnessOfEachSpot();
        ticksOfAFrame();
        brightnessFromTheFrameBefore();
    }

    private static void brightnessOfEachSpot() {
        sentence("Promise 18", "`spot`: 0 to 63");
        Watched x = lit(0, 63);
        for (int none : beyond(63)) {
            x.brightness(none, 0).is(INVALID);
            x.brightness(none, 60).is(INVALID);
        }
        x.brightness(0, 1).is(100);
        x.brightness(63, 16).is(100);
    }

    private static void ticksOfAFrame() {
        sentence("Promise 18", "`tick`: 0 to the period less 1");
        Watched x = lit(0, 63);
        for (int period : new int[] {60, 8, 9, 199, 200}) {
            x.set(PERIOD, period);
            for (int none : beyond(period - 1)) {
                x.brightness(0, none).is(INVALID);
                x.brightness(5, none).is(INVALID);
            }
            x.brightness(0, 0).is(0);
            x.brightness(0, 1).is(100);
            x.brightness(0, period - 1).is(0);
            x.brightness(5, period - 1).is(0);
        }
    }

    private static void brightnessFromTheFrameBefore() {
        sentence("Promise 18", "Returns the brightness at this tick of a frame");
        Watched x = lit(0);
        x.set(PERIOD, 8);
        x.setPhosphor(0, SLOW);
        // Seven ticks after the last frame's tick 1.
        x.brightness(0, 0).is(72);
        x.brightness(0, 1).is(100);
        x.brightness(0, 7).is(76);
    }

    // ---- Promise 19

    private static void firstWrong() {
        wrongForOneOfTwo();
        noneIsWrong();
        smallestWrongSpot();
    }

    private static void wrongForOneOfTwo() {
        sentence("Promise 19", "INVALID_ARGUMENT if by is out of range");
        Watched x = fresh();
        x.draw(DULL, 9, 1);
        x.draw(SECRET, 8, 1);
        for (int none : beyond(1)) {
            fresh().firstWrong(none).is(INVALID);
            x.firstWrong(none).is(INVALID);
        }
        x.firstWrong(0).is(9);
        x.firstWrong(1).is(8);
    }

    private static void noneIsWrong() {
        sentence("Promise 19", "NONE if none is wrong.");
        for (int by = 0; by < 2; by++) {
            Watched x = fresh();
            x.firstWrong(by).is(NONE);
            // What is wrong for the other one is not wrong for this one.
            x.draw(1 - by, 0, 1);
            x.firstWrong(by).is(NONE);
            x.draw(by, 63, 1);
            x.firstWrong(by).is(63);
            x.draw(by, 63, 0);
            x.firstWrong(by).is(NONE);
        }
    }

    private static void smallestWrongSpot() {
        sentence("Promise 19", "Finds the spot with the smallest number that is wrong.");
        for (int by = 0; by < 2; by++) {
            Watched x = fresh();
            for (int spot = 63; spot >= 0; spot--) {
                x.draw(by, spot, 1);
                x.firstWrong(by).is(spot);
            }
        }
        // By its number, not by its position: one that is seen though it should not be.
        Watched x = lit(9, 1, 0);
        x.set(PERIOD, 8);
        x.set(LENGTH, 8);
        x.set(BOUND, 37);
        for (int by = 0; by < 2; by++) {
            x.firstWrong(by).is(0);
            x.draw(by, 0, 1);
            x.firstWrong(by).is(1);
            x.draw(by, 1, 1);
            x.firstWrong(by).is(9);
            x.draw(by, 9, 1);
            x.firstWrong(by).is(NONE);
        }
    }

    // ---- Promise 20

    private static void bestStart() {
        startOrNumber();
        bestStartAtBothEnds();
        bestStartOfSeveral();
        fewestWrong();
    }

    private static void startOrNumber() {
        sentence("Promise 20", "INVALID_ARGUMENT if what is out of range.");
        for (int none : beyond(1)) {
            fresh().bestStart(none).is(INVALID);
            full().bestStart(none).is(INVALID);
        }
        fresh().bestStart(0).is(0);
        fresh().bestStart(1).is(0);
    }

    /** Looks at the best start for one spot, which is the secret, with a bound of 100. */
    private static void best(int[] order, int[] settings, int phosphor, int want) {
        Watched x = lit(order);
        int secret = order[order.length - 1];
        for (int what = 0; what < 6; what++) {
            x.set(what, settings[what]);
        }
        x.setPhosphor(secret, phosphor);
        x.draw(SECRET, secret, 1);
        x.bestStart(0).is(want);
        x.bestStart(1).is(0);
        x.settings(settings);
    }

    private static void bestStartAtBothEnds() {
        sentence("Promise 20", "Finds the start of the shutter, from 0 to the period less 1, for "
            + "which the fewest spots would be wrong for it, of several the smallest.");
        // 6 is lit at tick 7 of 8; halving it has 100 for five ticks, over the frame's end.
        best(new int[] {6}, new int[] {8, 1, 20, 3, 5, 100}, HALVING, 7);
        best(new int[] {6}, new int[] {8, 1, 20, 3, 4, 100}, HALVING, 0);
        best(new int[] {5}, new int[] {8, 1, 20, 3, 5, 100}, HALVING, 6);
        // At the last tick of the longest frame, and at the first one but 0.
        int[] far = {63, 0, 7, 6, 5, 4, 57};
        best(far, new int[] {200, 4, 20, 199, 1, 100}, FAST, 199);
        best(new int[] {0}, new int[] {200, 4, 20, 199, 1, 100}, FAST, 1);
        // Eight ticks that begin at the last but one of ten.
        best(new int[] {0, 6}, new int[] {10, 1, 20, 0, 8, 100}, STEPPING, 8);
        // Longer than a frame: 8 ticks of 100 again and again, from any start.
        best(new int[] {6}, new int[] {8, 1, 20, 5, 50, 100}, STEPPING, 0);
    }

    private static void bestStartOfSeveral() {
        sentence("Promise 20", "of several the smallest");
        // A stepping one that is lit at 1 is seen from the starts 1 to 8; from 0 it is not.
        best(new int[] {0}, new int[] {20, 1, 20, 5, 1, 100}, STEPPING, 1);
        best(new int[] {0}, new int[] {20, 1, 20, 5, 8, 100}, STEPPING, 1);
        // Where it is the same from all starts, it is 0: nothing is seen, or always as much.
        Watched x = fresh();
        x.set(START, 7);
        x.bestStart(0).is(0);
        x.draw(SECRET, 63, 1);
        x.bestStart(0).is(0);
        x.bestStart(1).is(1);
        for (int spot = 0; spot < 64; spot++) {
            x.draw(SECRET, spot, 1);
        }
        x.bestStart(0).is(0);
        x.bestStart(1).is(64);
        // Seen without an end, but not secret.
        x = lit(0);
        x.set(PERIOD, 8);
        x.setPhosphor(0, STEPPING);
        x.bestStart(0).is(0);
        x.bestStart(1).is(1);
    }

    private static void fewestWrong() {
        sentence("Promise 20", "`what`: 0 the start, 1 how many spots would be wrong");
        // 1 is lit at 2 and 9 at 4; with one tick and 100 each start sees one of them at most.
        Watched x = lit(1, 9);
        x.set(LENGTH, 1);
        x.set(BOUND, 100);
        x.bestStart(0).is(0);
        x.bestStart(1).is(0);
        x.draw(SECRET, 9, 1);
        x.bestStart(0).is(4);
        x.bestStart(1).is(0);
        x.draw(SECRET, 1, 1);
        x.bestStart(0).is(2);
        x.bestStart(1).is(1);
        // A dark one is wrong from each start.
        x.draw(SECRET, 50, 1);
        x.bestStart(0).is(2);
        x.bestStart(1).is(2);
        x.count(16).is(0);
        x.count(7).is(3);
        // The mean is rounded down: 300 in seven ticks are 42. From tick 3 on 9 has them, 1 not.
        x = lit(1, 9);
        x.set(LENGTH, 7);
        x.set(BOUND, 42);
        x.draw(SECRET, 9, 1);
        x.bestStart(0).is(3);
        x.bestStart(1).is(0);
        x.set(BOUND, 43);
        x.bestStart(0).is(0);
        x.bestStart(1).is(1);
    }

    // ---- Promise 21

    private static void leastTravel() {
        indicesBelow();
        leastTravelOfFewest();
        plansOfOtherOrders();
        positionsBehindThePlan();
        leastTravelOfSeveral();
        leastTravelOfTwelve();
    }

    private static void indicesBelow() {
        sentence("Promise 21", "INVALID_ARGUMENT if index is below -1");
        for (int none : new int[] {-2, -3, NONE, LOW}) {
            fresh().leastTravel(none).is(INVALID);
            lit(5).leastTravel(none).is(INVALID);
        }
        lit(5).leastTravel(-1).is(5);
        lit(5).leastTravel(0).is(5);
    }

    private static void leastTravelOfFewest() {
        sentence("Promise 21", "Returns the sum (0 without spots), or the spot at this position");
        fresh().leastTravel(-1).is(0);
        lit(0).leastTravel(-1).is(0);
        lit(0).leastTravel(0).is(0);
        lit(63).leastTravel(-1).is(14);
        lit(63).leastTravel(0).is(63);
    }

    private static void plansOfOtherOrders() {
        sentence("Promise 21", "Finds the order of the spots that are in the order now");
        Watched x = lit(63);
        plan(x, 14, 63);
        x.darken(63);
        plan(x, 0);
        x.light(62);
        plan(x, 13, 62);
        x.undo();
        plan(x, 0);
        x.take(0);
        x.runs("light 7;light 56;").is(2);
        plan(x, 21, 7, 56);
        x.restore(0);
        plan(x, 0);
    }

    private static void positionsBehindThePlan() {
        sentence("Promise 21", "NONE if there are not so many spots.");
        fresh().leastTravel(0).is(NONE);
        fresh().leastTravel(HIGH).is(NONE);
        lit(63).leastTravel(1).is(NONE);
        // A row of eight, and four below: by 40, 48, 49, 41, 42, 50, 51, 43 each way is 1.
        Watched x = full();
        x.leastTravel(11).is(47);
        x.leastTravel(12).is(NONE);
        x.leastTravel(13).is(NONE);
        x.leastTravel(HIGH).is(NONE);
        x.darken(40);
        x.leastTravel(11).is(NONE);
    }

    private static void plan(Watched x, int sum, int... spots) {
        x.leastTravel(-1).is(sum);
        for (int i = 0; i < spots.length; i++) {
            x.leastTravel(i).is(spots[i]);
        }
        x.leastTravel(spots.length).is(NONE);
    }

    private static void leastTravelOfSeveral() {
        sentence("Promise 21", "of several the one whose spots, compared one by one from the first "
            + "on, have the smaller number where they first differ.");
        // By 1 or by 8 it is as far; then the second or a later place decides.
        plan(lit(9, 8, 1), 3, 1, 9, 8);
        plan(lit(8, 1), 3, 1, 8);
        plan(lit(63, 56, 7), 21, 7, 63, 56);
        plan(lit(16, 9, 2), 6, 2, 9, 16);
        plan(lit(18, 17, 10, 9), 5, 9, 10, 18, 17);
        plan(lit(11, 10, 3, 2), 5, 2, 3, 11, 10);
        // Three orders have 9 ways; and with spot 0 two have as many.
        plan(lit(3, 24, 1), 9, 1, 3, 24);
        plan(lit(0, 7, 8), 9, 0, 8, 7);
        // The sum counts ahead of the numbers: by 1 first there are 11 ways.
        plan(lit(4, 24, 1), 10, 24, 1, 4);
    }

    private static void leastTravelOfTwelve() {
        sentence("Promise 21", "Finds the order of the spots that are in the order now for which "
            + "the sum of all ways is smallest");
        // The ends of the last three rows: 9 ways to their near corner, 44, and 11 more.
        Watched x = lit(63, 52, 62, 53, 61, 54, 60, 55, 46, 47, 44, 45);
        plan(x, 20, 44, 45, 46, 47, 55, 54, 53, 52, 60, 61, 62, 63);
        // The dark ones, too, and whatever the pace; the order itself stays.
        x.set(PERIOD, 8);
        x.set(PACE, 4);
        x.count(1).is(0);
        plan(x, 20, 44, 45, 46, 47, 55, 54, 53, 52, 60, 61, 62, 63);
        x.order(63, 52, 62, 53, 61, 54, 60, 55, 46, 47, 44, 45);
    }

    // ---- Promise 22

    /** Spot 0 is lit at tick 1 and is the secret. */
    private static Watched secretZero(int start, int bound) {
        Watched x = lit(0);
        x.draw(SECRET, 0, 1);
        x.set(START, start);
        x.set(BOUND, bound);
        return x;
    }

    private static void longest() {
        lengthsFromOneToFifty();
        noLength();
        longestFromItsStart();
    }

    private static void lengthsFromOneToFifty() {
        sentence("Promise 22", "Returns the length, 1 to 50");
        fresh().longest().is(50);
        // From its own tick on a fast one has 100, 90, 80, 70, 60, 50, 42 ..; 6 in 50 ticks.
        int[][] bounds = {{100, 1}, {91, 1}, {90, 2}, {61, 4}, {60, 5}, {51, 5}, {50, 6}, {43, 6},
            {42, 7}, {7, 42}, {6, 50}, {1, 50}};
        for (int[] bound : bounds) {
            secretZero(1, bound[0]).longest().is(bound[1]);
        }
    }

    private static void noLength() {
        sentence("Promise 22", "NONE if there is none.");
        secretZero(0, 61).longest().is(NONE);
        secretZero(6, 1).longest().is(NONE);
        Watched x = secretZero(1, 1);
        x.draw(SECRET, 1, 1);
        x.longest().is(NONE);
        // From tick 6 on the next frame's tick 1 is the 50th of 54, and the 51st of 55.
        x = secretZero(6, 1);
        x.set(PERIOD, 54);
        x.longest().is(50);
        x.set(PERIOD, 55);
        x.longest().is(NONE);
    }

    private static void longestFromItsStart() {
        sentence("Promise 22", "Finds the longest length of the shutter, from its start on, for "
            + "which no spot is wrong for it.");
        // From the tick before it is seen with 2 to 6 ticks, with 1 and with 7 it is not.
        secretZero(0, 50).longest().is(6);
        // A start beyond the period, and one at the last tick of the frame.
        secretZero(61, 60).longest().is(5);
        // From tick 59 on the means are 0, 0, 33, 45, 48, 46 and 42.
        Watched x = secretZero(59, 45);
        x.longest().is(6);
        x.set(START, 119);
        x.longest().is(6);
        // The present length has no part in it, and stays.
        x.set(LENGTH, 50);
        x.longest().is(6);
        x.set(LENGTH, 1);
        x.longest().is(6);
        x.count(17).is(1);
        // The longest one, though a shorter one is wrong: only the first four ticks have 70.
        x = secretZero(1, 70);
        x.draw(SECRET, 0, 0);
        x.longest().is(50);
        x.set(BOUND, 6);
        x.longest().is(NONE);
        x.set(BOUND, 7);
        x.longest().is(50);
    }

    // ---- Promise 23

    private static void ticks() {
        ticksOfEachPhosphor();
        boundsFromOneTo100();
        ticksAtEachStep();
        ticksOfOneLighting();
    }

    private static void ticksOfEachPhosphor() {
        sentence("Promise 23", "`phosphor`: 0 to 3");
        Watched x = fresh();
        for (int none : beyond(3)) {
            x.ticks(none, 1).is(INVALID);
            x.ticks(none, 0).is(INVALID);
        }
        x.ticks(0, 1).is(5);
        x.ticks(3, 1).is(8);
    }

    private static void boundsFromOneTo100() {
        sentence("Promise 23", "`bound`: 1 to 100");
        Watched x = fresh();
        int[] least = {5, 25, 35, 8};
        int[] most = {1, 1, 5, 8};
        for (int phosphor = 0; phosphor < 4; phosphor++) {
            for (int none : new int[] {0, -1, 101, LOW, HIGH}) {
                x.ticks(phosphor, none).is(INVALID);
            }
            x.ticks(phosphor, 1).is(least[phosphor]);
            x.ticks(phosphor, 100).is(most[phosphor]);
        }
    }

    private static void ticksAtEachStep() {
        sentence("Promise 23", "Returns the number of ticks, the first one included");
        int[][] cases = {{FAST, 20, 5}, {FAST, 21, 4}, {FAST, 80, 2}, {FAST, 81, 1}, {SLOW, 4, 25},
            {SLOW, 5, 24}, {SLOW, 96, 2}, {SLOW, 97, 1}, {HALVING, 2, 30}, {HALVING, 3, 30},
            {HALVING, 4, 25}, {HALVING, 6, 25}, {HALVING, 7, 20}, {HALVING, 12, 20},
            {HALVING, 13, 15}, {HALVING, 25, 15}, {HALVING, 26, 10}, {HALVING, 50, 10},
            {HALVING, 51, 5}, {STEPPING, 50, 8}};
        Watched x = fresh();
        for (int[] c : cases) {
            x.ticks(c[0], c[1]).is(c[2]);
        }
    }

    private static void ticksOfOneLighting() {
        sentence("Promise 23", "Tells for how many ticks a spot that is lit once is at least as "
            + "bright as a bound.");
        // Once, not in each frame: the shortest period cuts nothing off.
        Watched x = lit(0);
        x.set(PERIOD, 8);
        x.ticks(SLOW, 1).is(25);
        x.ticks(HALVING, 1).is(35);
        x.ticks(STEPPING, 1).is(8);
    }

    // ---- Promise 24

    private static void shortestPeriod() {
        periodsFromEight();
        periodWithoutAnOrder();
        periodsBeyond200();
    }

    private static void periodsFromEight() {
        sentence("Promise 24", "Finds the shortest period, from 8 on, with which all spots of the "
            + "order would be lit.");
        // 5, 6 and 7 are lit at the ticks 6, 7 and 8.
        lit(0).shortestPeriod().is(8);
        lit(5).shortestPeriod().is(8);
        lit(6).shortestPeriod().is(8);
        lit(7).shortestPeriod().is(9);
        // All of them, the last one as well: 7 at 8 and 6 at 10.
        lit(7, 6).shortestPeriod().is(11);
        Watched x = lit(7);
        x.set(PACE, 4);
        x.shortestPeriod().is(30);
        // The present period has no part in it.
        x.set(PERIOD, 8);
        x.shortestPeriod().is(30);
        x.set(PERIOD, 200);
        x.shortestPeriod().is(30);
        x.count(13).is(200);
        x.set(PERIOD, 30);
        x.count(1).is(1);
        x.set(PERIOD, 29);
        x.count(1).is(0);
    }

    private static void periodWithoutAnOrder() {
        sentence("Promise 24", "Returns the period (8 without an order)");
        fresh().shortestPeriod().is(8);
        Watched x = fresh();
        x.set(PACE, 4);
        x.set(PERIOD, 200);
        x.shortestPeriod().is(8);
        x.light(63);
        x.shortestPeriod().is(58);
        x.darken(63);
        x.shortestPeriod().is(8);
    }

    private static void periodsBeyond200() {
        sentence("Promise 24", "NONE if there is none up to 200.");
        // 48 ways and 7 ticks at the pace 4: lit at 199. 49 ways and 4 ticks: at 200.
        Watched x = lit(63, 0, 7, 6, 5, 4, 57);
        x.set(PACE, 4);
        x.shortestPeriod().is(200);
        x.set(PERIOD, 200);
        x.count(1).is(7);
        x = lit(63, 0, 7, 56);
        x.set(PACE, 4);
        x.shortestPeriod().is(NONE);
        x.set(PERIOD, 200);
        x.count(1).is(3);
        x.set(PACE, 3);
        x.shortestPeriod().is(152);
        // Farther still, with twelve.
        x = lit(63, 0, 62, 1, 61, 2, 60, 3, 59, 4, 58, 5);
        x.shortestPeriod().is(138);
        x.set(PACE, 2);
        x.shortestPeriod().is(NONE);
    }
}
