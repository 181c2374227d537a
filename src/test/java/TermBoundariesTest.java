import java.util.List;
import java.util.function.Consumer;

/** The boundary cases of the terms, a test for each sentence that names one. */
public final class TermBoundariesTest extends Sentences {
    private static final int FAST = 0;
    private static final int SLOW = 1;
    private static final int HALVING = 2;
    private static final int STEPPING = 3;

    private static final int DULL = 0;
    private static final int SECRET = 1;

    private static final int PERIOD = 0;
    private static final int PACE = 1;
    private static final int EYE_BOUND = 2;
    private static final int START = 3;
    private static final int LENGTH = 4;
    private static final int BOUND = 5;

    public static void main(String[] args) {
        screen();
        beam();
        eye();
        pictures();
        programs();
        snapshots();
        undo();
        errors();
        aLongLife();
        finish(List.of("What it is", "Screen", "Beam", "Eye and shutter", "Pictures", "Programs",
            "Snapshots", "Undo", "Errors"));
    }

    private static Watched fresh() {
        return Watched.fresh();
    }

    private static Watched lit(int... spots) {
        return Watched.lit(spots);
    }

    /** One lit spot, spot 0 at tick 1, with this phosphor in frames of this period. */
    private static Watched oneLit(int phosphor, int period) {
        Watched x = lit(0);
        x.setPhosphor(0, phosphor);
        x.set(PERIOD, period);
        return x;
    }

    // ---- Screen

    private static void screen() {
        spotsFromZeroTo63();
        rowsOfEight();
        waysFromNoneToTheLongest();
        phosphorsFromZeroToThree();
        fastFadesToNothing();
        slowFadesToNothing();
        halvingHalvesWithEachFifthTick();
        steppingEndsWithTheEighthTick();
    }

    private static void spotsFromZeroTo63() {
        sentence("Screen", "The screen has 64 spots");
        Watched x = lit(0, 63);
        for (int none : new int[] {-1, 64, LOW, HIGH}) {
            x.setPhosphor(none, 1).is(INVALID);
            x.light(none).is(INVALID);
            x.darken(none).is(INVALID);
            x.draw(DULL, none, 1).is(INVALID);
            x.spot(none, 0).is(INVALID);
            x.brightness(none, 0).is(INVALID);
        }
        for (int spot : new int[] {0, 63}) {
            x.setPhosphor(spot, 1).is(0);
            x.spot(spot, 0).is(1);
            x.brightness(spot, 0).is(0);
        }
        x.draw(DULL, 0, 1).is(1);
        x.draw(DULL, 63, 1).is(2);
        x.darken(0).is(0);
        x.darken(63).is(0);
    }

    private static void rowsOfEight() {
        sentence("Screen", "spot s is in the row s divided by 8, rounded down, and in the column "
            + "that is left over");
        // The ends of the first row and of the last one, and the spots next to them by number.
        int[] spots = {7, 8, 15, 16, 55, 56, 63};
        int[] fromZero = {7, 1, 8, 2, 13, 7, 14};
        int[] fromTheOneBefore = {7, 8, 7, 8, 11, 8, 7};
        Watched x = fresh();
        int sum = 0;
        for (int i = 0; i < spots.length; i++) {
            lit(spots[i]).count(8).is(fromZero[i]);
            x.light(spots[i]).is(i);
            sum += fromTheOneBefore[i];
            x.count(8).is(sum);
        }
    }

    private static void waysFromNoneToTheLongest() {
        sentence("Screen", "The way between two spots is the difference of their rows and that of "
            + "their columns together");
        lit(0).count(8).is(0);
        lit(63).count(8).is(14);
        lit(63, 0).count(8).is(28);
        lit(7, 56).count(8).is(21);
        lit(56, 7).count(8).is(21);
        lit(7, 6, 14, 15).count(8).is(10);
    }

    private static void phosphorsFromZeroToThree() {
        sentence("Screen", "Each spot has one of four phosphors (at first 0)");
        Watched x = fresh();
        for (int spot = 0; spot < 64; spot++) {
            x.spot(spot, 0).is(0);
        }
        x.setPhosphor(5, -1).is(INVALID);
        x.setPhosphor(5, 4).is(INVALID);
        x.setPhosphor(5, 3).is(0);
        x.setPhosphor(5, 0).is(3);
        for (int spot = 0; spot < 64; spot++) {
            x.spot(spot, 0).is(0);
        }
    }

    /** Spot 0 is lit at tick 1 of 200: tick 0 is the one that is 199 ticks after that. */
    private static void fading(int phosphor, int ticksAgo, int want) {
        Watched x = oneLit(phosphor, 200);
        x.brightness(0, (1 + ticksAgo) % 200).is(want);
    }

    private static void fastFadesToNothing() {
        sentence("Screen", "0 fast: 100 less 20 times n, but at least 0;");
        fading(FAST, 0, 100);
        fading(FAST, 1, 80);
        fading(FAST, 4, 20);
        for (int n = 5; n < 200; n++) {
            fading(FAST, n, 0);
        }
    }

    private static void slowFadesToNothing() {
        sentence("Screen", "1 slow: 100 less 4 times n, but at least 0;");
        fading(SLOW, 0, 100);
        fading(SLOW, 1, 96);
        fading(SLOW, 24, 4);
        for (int n = 25; n < 200; n++) {
            fading(SLOW, n, 0);
        }
    }

    private static void halvingHalvesWithEachFifthTick() {
        sentence("Screen", "2 halving: 100, halved and rounded down as often as 5 ticks are full "
            + "in n;");
        int[] halved = {100, 50, 25, 12, 6, 3, 1};
        for (int times = 0; times < halved.length; times++) {
            fading(HALVING, 5 * times, halved[times]);
            fading(HALVING, 5 * times + 4, halved[times]);
        }
        for (int n = 35; n < 200; n++) {
            fading(HALVING, n, 0);
        }
    }

    private static void steppingEndsWithTheEighthTick() {
        sentence("Screen", "3 stepping: 100 if n is less than 8, otherwise 0.");
        for (int n = 0; n < 8; n++) {
            fading(STEPPING, n, 100);
        }
        for (int n = 8; n < 200; n++) {
            fading(STEPPING, n, 0);
        }
    }

    // ---- Beam

    private static void beam() {
        ticksOfAFrame();
        framesAlike();
        twelveSpotsInTheOrder();
        eachFrameBeginsAtSpotZero();
        paceFromOneToFour();
        spotZeroAsTheFirstOne();
        theEndOfThePeriod();
        allBehindStayDark();
        theFrameBefore();
        darkSpots();
    }

    private static void ticksOfAFrame() {
        sentence("Beam", "A frame takes a period of 8 to 200 ticks (at first 60), numbered from 0");
        Watched x = lit(0);
        for (int period : new int[] {60, 8, 9, 200}) {
            x.set(PERIOD, period);
            x.brightness(0, -1).is(INVALID);
            x.brightness(0, 0).is(0);
            x.brightness(0, 1).is(100);
            x.brightness(0, period - 1).is(0);
            x.brightness(0, period).is(INVALID);
        }
        x.set(PERIOD, 7).is(INVALID);
        x.set(PERIOD, 201).is(INVALID);
        x.count(13).is(200);
        fresh().count(13).is(60);
    }

    private static void framesAlike() {
        sentence("Beam", "frames follow each other without an end, all alike");
        // What has not faded in 8 ticks goes on at the next frame's tick 0, but is not heaped up.
        Watched x = oneLit(SLOW, 8);
        int[] slow = {72, 100, 96, 92, 88, 84, 80, 76};
        for (int tick = 0; tick < 8; tick++) {
            x.brightness(0, tick).is(slow[tick]);
        }
        x = oneLit(STEPPING, 8);
        for (int tick = 0; tick < 8; tick++) {
            x.brightness(0, tick).is(100);
        }
        x.set(PERIOD, 9);
        x.brightness(0, 8).is(100);
        x.brightness(0, 0).is(0);
    }

    private static void twelveSpotsInTheOrder() {
        sentence("Beam", "The beam has an order of at most 12 different spots, by positions "
            + "from 0");
        Watched x = fresh();
        x.order();
        for (int i = 0; i < 12; i++) {
            x.light(20 + i).is(i);
            x.light(20 + i).is(ILLEGAL);
            x.light(20).is(ILLEGAL);
        }
        x.light(50).is(NO_ROOM);
        x.order(Watched.range(20, 31));
        x.at(11).is(31);
        x.at(12).is(NONE);
        x.darken(20).is(0);
        x.light(50).is(11);
        x.light(20).is(NO_ROOM);
    }

    private static void eachFrameBeginsAtSpotZero() {
        sentence("Beam", "In each frame it begins at spot 0, at the tick 0.");
        Watched x = lit(63);
        x.spot(63, 4).is(15);
        // The beam that ends at 63 is at spot 0 again when the next frame begins.
        x.set(PERIOD, 16);
        x.spot(63, 4).is(15);
        x.brightness(63, 15).is(100);
        x.brightness(63, 0).is(80);
        x = lit(1, 9);
        x.exchange(0, 1);
        x.spot(9, 4).is(3);
        x.spot(1, 4).is(5);
    }

    private static void paceFromOneToFour() {
        sentence("Beam", "it needs the way to the next spot of the order times its pace (1 to 4, "
            + "at first 1), and 1 tick more");
        Watched x = lit(63, 62);
        x.count(14).is(1);
        x.spot(63, 4).is(15);
        x.spot(62, 4).is(17);
        x.set(PACE, 0).is(INVALID);
        x.set(PACE, 5).is(INVALID);
        x.spot(63, 4).is(15);
        x.set(PACE, 4).is(1);
        x.set(PERIOD, 63);
        // 14 ways at 4 ticks and 1; then one way.
        x.spot(63, 4).is(57);
        x.spot(62, 4).is(62);
    }

    private static void spotZeroAsTheFirstOne() {
        sentence("Beam", "(spot 0 as the first one at the tick 1)");
        for (int pace = 1; pace <= 4; pace++) {
            Watched x = lit(0, 1);
            x.set(PACE, pace);
            x.spot(0, 4).is(1);
            x.spot(1, 4).is(2 + pace);
        }
        // Not as the first one it needs its way.
        Watched x = lit(1, 0);
        x.spot(0, 4).is(4);
    }

    private static void theEndOfThePeriod() {
        sentence("Beam", "If this would be at the end of the period or later, this spot and all "
            + "behind it in the order stay dark.");
        // 63 is due at tick 15.
        Watched x = lit(63);
        x.set(PERIOD, 16);
        x.spot(63, 4).is(15);
        x.count(1).is(1);
        x.set(PERIOD, 15);
        x.spot(63, 4).is(NONE);
        x.count(1).is(0);
        x.set(PERIOD, 14);
        x.spot(63, 4).is(NONE);
        x.count(1).is(0);
        // 6 is due at tick 7 of the shortest frame, 7 at tick 8.
        x = lit(6);
        x.set(PERIOD, 8);
        x.spot(6, 4).is(7);
        x = lit(7);
        x.set(PERIOD, 8);
        x.spot(7, 4).is(NONE);
        // 48 ways at the pace 4 and 7 ticks: the last one is due at tick 199 of the longest.
        x = lit(63, 0, 7, 6, 5, 4, 57);
        x.set(PACE, 4);
        x.set(PERIOD, 200);
        x.spot(57, 4).is(199);
        x.brightness(57, 199).is(100);
        x.set(PERIOD, 199);
        x.spot(57, 4).is(NONE);
        x.spot(4, 4).is(158);
    }

    private static void allBehindStayDark() {
        sentence("Beam", "this spot and all behind it in the order stay dark");
        // The beam does not pass over 63, though 2 is near and would be in time.
        Watched x = lit(1, 63, 2);
        x.set(PERIOD, 8);
        x.count(1).is(1);
        x.spot(1, 4).is(2);
        x.spot(63, 4).is(NONE);
        x.spot(2, 4).is(NONE);
        x.exchange(1, 2).is(2);
        x.spot(2, 4).is(4);
        x.exchange(0, 2).is(0);
        x.spot(1, 4).is(NONE);
        x.spot(2, 4).is(NONE);
        // They keep their places.
        x.order(63, 2, 1);
        x.spot(1, 3).is(2);
    }

    private static void theFrameBefore() {
        sentence("Beam", "a spot that is lit has the brightness by the ticks since it was lit last "
            + "(in the frame before, if it is lit later in this one; at its own tick this is 0)");
        Watched x = lit(4);
        x.setPhosphor(4, SLOW);
        x.set(PERIOD, 20);
        // Lit at tick 5: 14 ticks ago at the end of the frame, 15 at tick 0, 19 at tick 4.
        int[] ticks = {5, 6, 19, 0, 4};
        int[] bright = {100, 96, 44, 40, 24};
        for (int i = 0; i < ticks.length; i++) {
            x.brightness(4, ticks[i]).is(bright[i]);
        }
        // Lit at the last tick of 6 and at the first one that there is.
        x = lit(6);
        x.setPhosphor(6, SLOW);
        x.set(PERIOD, 8);
        x.brightness(6, 7).is(100);
        x.brightness(6, 0).is(96);
        x.brightness(6, 6).is(72);
        x = oneLit(SLOW, 25);
        x.brightness(0, 1).is(100);
        x.brightness(0, 0).is(4);
    }

    private static void darkSpots() {
        sentence("Beam", "A dark spot, and one that is not in the order, has the brightness 0.");
        // 63 is due at tick 15; all four phosphors, as they would fade in different ways.
        for (int phosphor = 0; phosphor < 4; phosphor++) {
            Watched x = lit(63);
            x.set(PERIOD, 15);
            x.setPhosphor(63, phosphor);
            x.setPhosphor(5, phosphor);
            for (int tick = 0; tick < 15; tick++) {
                x.brightness(63, tick).is(0);
                x.brightness(5, tick).is(0);
            }
            for (int spot : new int[] {5, 63}) {
                x.spot(spot, 7).is(0);
                x.spot(spot, 8).is(0);
                x.spot(spot, 9).is(0);
            }
            x.set(PERIOD, 16);
            x.brightness(63, 15).is(100);
            x.brightness(5, 15).is(0);
            x.darken(63);
            x.brightness(63, 15).is(0);
        }
    }

    // ---- Eye and shutter

    private static void eye() {
        eyeAtItsBound();
        eyeBoundFromOneTo100();
        flickerFromNoneToAll();
        startBeyondThePeriod();
        shutterOverTheEndOfTheFrame();
        ticksThatComeTwice();
        lengthFromOneToFifty();
        shutterAtItsBound();
        shutterBoundFromOneTo100();
    }

    private static void eyeSees(Watched x, int bound, int want) {
        x.set(EYE_BOUND, bound);
        x.spot(0, 5).is(want);
        x.count(4).is(want);
    }

    private static void eyeAtItsBound() {
        sentence("Eye and shutter", "The eye sees a spot if the mean of its brightness over all "
            + "ticks of a frame, rounded down, is at least the eye's bound");
        // A fast spot has 300 in a frame: 20 in 15 ticks, 18 and a rest in 16, 21 and one in 14.
        int[][] means = {{15, 20}, {16, 18}, {14, 21}, {8, 37}, {200, 1}};
        for (int[] mean : means) {
            Watched x = oneLit(FAST, mean[0]);
            x.spot(0, 7).is(mean[1]);
            eyeSees(x, mean[1], 1);
            eyeSees(x, mean[1] + 1, 0);
        }
    }

    private static void eyeBoundFromOneTo100() {
        sentence("Eye and shutter", "is at least the eye's bound (1 to 100, at first 20)");
        Watched x = oneLit(FAST, 15);
        x.count(15).is(20);
        x.spot(0, 5).is(1);
        x.set(PERIOD, 16);
        x.spot(0, 5).is(0);
        x.set(EYE_BOUND, 0).is(INVALID);
        x.set(EYE_BOUND, 101).is(INVALID);
        x.count(15).is(20);
        // With 1 a mean of 1 is enough, but nothing is not: a dark spot is not seen.
        x.set(PERIOD, 200);
        eyeSees(x, 1, 1);
        x.spot(1, 5).is(0);
        // Only a stepping spot in the shortest frame has 100 without an end.
        x = oneLit(STEPPING, 8);
        eyeSees(x, 100, 1);
        x.set(PERIOD, 9);
        x.spot(0, 7).is(88);
        x.spot(0, 5).is(0);
    }

    private static void flickerFromNoneToAll() {
        sentence("Eye and shutter", "The flicker of a spot is its greatest brightness in a frame "
            + "less its smallest one.");
        int[][] cases = {{STEPPING, 8, 0}, {STEPPING, 9, 100}, {SLOW, 8, 28}, {SLOW, 25, 96},
            {SLOW, 26, 100}, {SLOW, 27, 100}, {HALVING, 8, 50}, {HALVING, 10, 50},
            {HALVING, 11, 75}, {HALVING, 35, 99}, {HALVING, 36, 100}, {FAST, 8, 100},
            {FAST, 200, 100}};
        for (int[] c : cases) {
            oneLit(c[0], c[1]).spot(0, 9).is(c[2]);
        }
        // The smallest one is that of the tick before its own, wherever this is in the frame.
        for (int spot : new int[] {0, 1, 3, 5, 6}) {
            Watched x = lit(spot);
            x.setPhosphor(spot, SLOW);
            x.set(PERIOD, 8);
            x.spot(spot, 9).is(28);
        }
        Watched x = lit(63);
        x.set(PERIOD, 15);
        x.spot(63, 9).is(0);
        x.spot(5, 9).is(0);
    }

    private static void startBeyondThePeriod() {
        sentence("Eye and shutter", "The shutter opens at a tick, its start (0 to 199, at first 0; "
            + "of a start at the end of the period or later, what is left over of it by the period "
            + "counts)");
        Watched x = oneLit(SLOW, 20);
        x.count(16).is(0);
        x.set(START, -1).is(INVALID);
        x.set(START, 200).is(INVALID);
        x.set(LENGTH, 1);
        // Lit at tick 1: tick 0 has 24, tick 19 has 28.
        int[][] starts = {{0, 24}, {1, 100}, {19, 28}, {20, 24}, {21, 100}, {39, 28}, {40, 24},
            {180, 24}, {199, 28}};
        for (int[] start : starts) {
            x.set(START, start[0]);
            x.spot(0, 8).is(start[1]);
            x.count(16).is(start[0]);
        }
        // The start itself stays: in other periods something else is left over.
        x.set(PERIOD, 200);
        x.spot(0, 8).is(0);
        x.set(PERIOD, 8);
        x.spot(0, 8).is(76);
        x.set(PERIOD, 198);
        x.spot(0, 8).is(100);
        x.set(PERIOD, 199);
        x.spot(0, 8).is(0);
        x.count(16).is(199);
        // At the end of the longest frame.
        x = lit(63, 0, 7, 6, 5, 4, 57);
        x.set(PACE, 4);
        x.set(PERIOD, 200);
        x.set(LENGTH, 1);
        x.set(START, 199);
        x.spot(57, 8).is(100);
        x.set(START, 198);
        x.spot(57, 8).is(0);
    }

    private static void shutterOverTheEndOfTheFrame() {
        sentence("Eye and shutter", "at the end of a frame it goes on at tick 0");
        // Lit at tick 1 of 20: ticks 18, 19, 0 and 1 have 32, 28, 24 and 100.
        Watched x = oneLit(SLOW, 20);
        x.set(START, 18);
        int[] means = {32, 30, 28, 46};
        for (int length = 1; length <= 4; length++) {
            x.set(LENGTH, length);
            x.spot(0, 8).is(means[length - 1]);
        }
        x.set(START, 19);
        x.set(LENGTH, 1);
        x.spot(0, 8).is(28);
        x.set(LENGTH, 2);
        x.spot(0, 8).is(26);
    }

    private static void ticksThatComeTwice() {
        sentence("Eye and shutter", "(one that comes twice counts twice)");
        // A fast spot has 300 in 8 ticks, and 100 and 80 at the ticks 1 and 2.
        Watched x = oneLit(FAST, 8);
        x.set(START, 1);
        int[][] means = {{7, 42}, {8, 37}, {9, 44}, {10, 48}, {16, 37}, {17, 41}, {48, 37},
            {49, 38}, {50, 39}};
        for (int[] mean : means) {
            x.set(LENGTH, mean[0]);
            x.spot(0, 8).is(mean[1]);
        }
        // Ahead of its tick it is dark twice as well: 300 in 9 ticks.
        x.set(START, 0);
        x.set(LENGTH, 9);
        x.spot(0, 8).is(33);
    }

    private static void lengthFromOneToFifty() {
        sentence("Eye and shutter", "for a length of 1 to 50 ticks (at first 4;");
        Watched x = oneLit(FAST, 60);
        x.count(17).is(4);
        x.set(START, 1);
        x.spot(0, 8).is(70);
        x.set(LENGTH, 0).is(INVALID);
        x.set(LENGTH, 51).is(INVALID);
        x.spot(0, 8).is(70);
        x.set(LENGTH, 1).is(4);
        x.spot(0, 8).is(100);
        x.set(LENGTH, 50).is(1);
        x.spot(0, 8).is(6);
    }

    private static void shutterSees(Watched x, int bound, int want) {
        x.set(BOUND, bound);
        x.spot(0, 6).is(want);
        x.count(5).is(want);
    }

    private static void shutterAtItsBound() {
        sentence("Eye and shutter", "It sees a spot if the mean of its brightness over these ticks "
            + "(one that comes twice counts twice), rounded down, is at least its bound");
        // A fast spot has 300 from its tick on: 60 in 5 ticks, 42 and a rest in 7.
        int[][] means = {{1, 100}, {2, 90}, {5, 60}, {6, 50}, {7, 42}, {50, 6}};
        Watched x = oneLit(FAST, 60);
        x.set(START, 1);
        for (int[] mean : means) {
            x.set(LENGTH, mean[0]);
            shutterSees(x, mean[1], 1);
            if (mean[1] < 100) {
                shutterSees(x, mean[1] + 1, 0);
            }
        }
    }

    private static void shutterBoundFromOneTo100() {
        sentence("Eye and shutter", "rounded down, is at least its bound (1 to 100, at first 60)");
        Watched x = oneLit(FAST, 60);
        x.count(18).is(60);
        x.set(START, 1);
        x.set(LENGTH, 5);
        x.spot(0, 6).is(1);
        x.set(LENGTH, 6);
        x.spot(0, 6).is(0);
        x.set(BOUND, 0).is(INVALID);
        x.set(BOUND, 101).is(INVALID);
        x.count(18).is(60);
        x.set(LENGTH, 1);
        shutterSees(x, 100, 1);
        x.set(START, 2);
        x.spot(0, 6).is(0);
        // Its last 20 alone: in 20 ticks they are 1, in 21 less.
        x.set(START, 5);
        x.set(LENGTH, 20);
        shutterSees(x, 1, 1);
        x.set(LENGTH, 21);
        x.spot(0, 8).is(0);
        x.spot(0, 6).is(0);
        // A dark spot is not seen even with 1.
        x.spot(1, 6).is(0);
    }

    // ---- Pictures

    private static void pictures() {
        emptyPictures();
        wrongForTheEye();
        wrongForTheShutter();
    }

    private static void emptyPictures() {
        sentence("Pictures", "The dull picture and the secret one are sets of spots, both empty at "
            + "first.");
        Watched x = fresh();
        x.count(2).is(0);
        x.count(3).is(0);
        for (int spot = 0; spot < 64; spot++) {
            x.spot(spot, 1).is(0);
            x.spot(spot, 2).is(0);
        }
        // Sets: what is put in twice is in once, and all 64 have room.
        for (int spot = 0; spot < 64; spot++) {
            x.draw(DULL, spot, 1).is(spot + 1);
            x.draw(DULL, spot, 1).is(spot + 1);
        }
        x.count(3).is(0);
        for (int spot = 0; spot < 64; spot++) {
            x.draw(SECRET, spot, 1).is(spot + 1);
        }
        x.draw(DULL, 63, 0).is(63);
        x.draw(DULL, 63, 0).is(63);
        x.count(3).is(64);
    }

    /** Spot 0 is seen by the eye with 37, by the shutter in its tick; spot 63 is dark. */
    private static Watched oneSeen() {
        Watched x = lit(0, 63);
        x.set(PERIOD, 8);
        x.set(START, 1);
        x.set(LENGTH, 1);
        x.spot(0, 5).is(1);
        x.spot(0, 6).is(1);
        x.spot(63, 5).is(0);
        x.spot(63, 6).is(0);
        return x;
    }

    private static void wrongForTheEye() {
        sentence("Pictures", "A spot is wrong for the eye if it is in the dull picture and not "
            + "seen, or seen and not in the dull picture");
        wrongFor(DULL, 6);
    }

    private static void wrongForTheShutter() {
        sentence("Pictures", "for the shutter likewise by the secret picture");
        wrongFor(SECRET, 7);
    }

    private static void wrongFor(int picture, int what) {
        Watched x = oneSeen();
        // The other picture says nothing of it.
        x.draw(1 - picture, 0, 1);
        x.draw(1 - picture, 9, 1);
        x.count(what).is(1);
        x.firstWrong(picture).is(0);
        x.draw(picture, 0, 1);
        x.count(what).is(0);
        x.firstWrong(picture).is(NONE);
        // A spot that stays dark, and one that is not in the order.
        x.draw(picture, 63, 1);
        x.count(what).is(1);
        x.firstWrong(picture).is(63);
        x.draw(picture, 62, 1);
        x.count(what).is(2);
        x.firstWrong(picture).is(62);
        x.draw(picture, 0, 0);
        x.count(what).is(3);
        x.firstWrong(picture).is(0);
        // All 64: each in the picture but the one that is seen.
        for (int spot = 1; spot < 64; spot++) {
            x.draw(picture, spot, 1);
        }
        x.count(what).is(64);
        x.draw(picture, 0, 1);
        x.count(what).is(63);
        x.firstWrong(picture).is(1);
    }

    // ---- Programs

    private static void programs() {
        textsOf140();
        programsWithoutCommands();
        eachCommandEnds();
        numbersOfEachCommand();
        lightInAProgram();
        darkInAProgram();
        kindInAProgram();
        dullInAProgram();
        secretInAProgram();
        sortInAProgram();
        swapInAProgram();
        wordsNearly();
        runsOfLetters();
        runsOfDigits();
        otherCharacters();
        numbersOfFourDigits();
        spacesWhereTheyMayStand();
        spacesWhereTheyMust();
        commandsOneByOne();
        theFirstFailure();
        placesOfFailures();
        nothingStaysOfAFailure();
    }

    private static void programIs(String text, int want) {
        Watched.programIs(text, want);
    }

    private static void textsOf140() {
        sentence("Programs", "A text of at most 140 characters can be run as a program");
        String commands = "sort0;".repeat(22) + "light 9;";
        Watched x = fresh();
        x.type(commands);
        x.count(12).is(140);
        x.append(';').is(NO_ROOM);
        x.count(12).is(140);
        x.run().is(23);
        x.order(9);
        // The last of all characters counts.
        programIs("sort0;".repeat(22) + "light 99", -1140);
        programIs("sort0;".repeat(22) + " light 9", -1140);
        programIs("sort0;".repeat(22) + "light 9:", -1139);
    }

    private static void programsWithoutCommands() {
        sentence("Programs", "commands (possibly none)");
        Watched x = lit(5);
        x.run().is(0);
        x.count(11).is(2);
        x.runs(" ").is(0);
        x.count(12).is(0);
        x.runs(" ".repeat(140)).is(0);
        x.count(12).is(0);
        x.count(11).is(4);
        x.order(5);
    }

    private static void eachCommandEnds() {
        sentence("Programs", "each of which ends with \";\"");
        programIs("light 5", -1007);
        programIs("light 5;", 1);
        programIs("light 5;light 6", -1015);
        programIs("light 5 light 6;", -1008);
        programIs(";", -1000);
        programIs("light 5;;", -1008);
        programIs(";light 5;", -1000);
        programIs("light 5,", -1007);
    }

    private static void numbersOfEachCommand() {
        sentence("Programs", "a word and then numbers");
        for (String word : List.of("light", "dark", "dull", "secret", "sort")) {
            int end = -1000 - word.length();
            programIs(word, end);
            programIs(word + ";", end);
            programIs(word + "99", end - 2);
            programIs(word + "99 9;", end - 3);
            programIs(word + "99x;", end - 2);
            // With all that it needs it is read, and 99 is refused.
            programIs(word + "99;", -1000);
        }
        for (String word : List.of("kind", "swap")) {
            programIs(word, -1004);
            programIs(word + ";", -1004);
            programIs(word + "99", -1006);
            programIs(word + "99;", -1006);
            programIs(word + "99 9", -1008);
            programIs(word + "99 9 9;", -1009);
            programIs(word + "99 x;", -1007);
            programIs(word + "99 9;", -1000);
        }
        programIs("9;", -1000);
        programIs("9 light;", -1000);
    }

    private static void lightInAProgram() {
        sentence("Programs", "\"light\" SPOT as light()");
        Watched x = fresh();
        x.runs("light 0;light 63;").is(2);
        x.order(0, 63);
        x.runs("light 64;").is(-1000);
        x.clearText();
        x.runs("light 0;").is(-1000);
        x.clearText();
        x.runs("light1;light2;light3;light4;light5;light6;light7;light8;light9;light10;").is(10);
        x.runs("light 11;").is(-1000);
        x.order(0, 63, 1, 2, 3, 4, 5, 6, 7, 8, 9, 10);
    }

    private static void darkInAProgram() {
        sentence("Programs", "\"dark\" SPOT as darken()");
        programIs("dark 0;", -1000);
        Watched x = lit(63, 5, 0);
        x.runs("dark 5;dark 63;").is(2);
        x.order(0);
        x.runs("dark 64;").is(-1000);
        x.clearText();
        x.runs("dark 0;").is(1);
        x.order();
        x.runs("dark 0;").is(-1000);
    }

    private static void kindInAProgram() {
        sentence("Programs", "\"kind\" SPOT PHOSPHOR as setPhosphor()");
        Watched x = fresh();
        x.runs("kind 0 3;kind 63 3;kind 1 3;kind 1 0;").is(4);
        x.spot(0, 0).is(3);
        x.spot(63, 0).is(3);
        x.spot(1, 0).is(0);
        x.spot(3, 0).is(0);
        x.runs("kind 64 0;").is(-1000);
        x.clearText();
        x.runs("kind 0 4;").is(-1000);
        x.spot(0, 0).is(3);
    }

    private static void dullInAProgram() {
        sentence("Programs", "\"dull\" SPOT as draw() into the dull picture");
        drawing("dull", DULL);
    }

    private static void secretInAProgram() {
        sentence("Programs", "\"secret\" SPOT as draw() into the secret picture");
        drawing("secret", SECRET);
    }

    private static void drawing(String word, int picture) {
        Watched x = fresh();
        x.runs(word + " 0;" + word + " 63;" + word + " 0;").is(3);
        x.count(2 + picture).is(2);
        x.count(3 - picture).is(0);
        x.spot(0, 1 + picture).is(1);
        x.spot(63, 1 + picture).is(1);
        x.spot(0, 2 - picture).is(0);
        x.runs(word + " 64;").is(-1000);
        x.count(2 + picture).is(2);
    }

    private static void sortInAProgram() {
        sentence("Programs", "\"sort\" RULE as sort()");
        programIs("sort0;sort1;sort2;sort3;", 4);
        programIs("sort 4;", -1000);
        Watched x = lit(9, 2, 0);
        x.runs("sort 0;").is(1);
        x.order(0, 2, 9);
        x.runs("secret 0;sort 1;").is(2);
        x.order(2, 9, 0);
        x.runs("kind 2 1;sort 2;").is(2);
        x.order(0, 9, 2);
        x.runs("sort 3;").is(1);
        x.order(0, 2, 9);
    }

    private static void swapInAProgram() {
        sentence("Programs", "\"swap\" POSITION POSITION as exchange()");
        programIs("swap 0 0;", -1000);
        Watched x = lit(Watched.range(40, 51));
        x.runs("swap 0 11;").is(1);
        x.at(0).is(51);
        x.at(11).is(40);
        x.runs("swap 0 12;").is(-1000);
        x.clearText();
        x.runs("swap 12 0;").is(-1000);
        x.clearText();
        x.runs("swap 3 3;").is(1);
        x.order(51, 41, 42, 43, 44, 45, 46, 47, 48, 49, 50, 40);
    }

    /** A word with a letter more, or less, or another one, is none; the others stand near it. */
    private static void wordsNearly() {
        sentence("Programs", "A program fails at the first token that is not allowed where it "
            + "stands");
        for (String call : List.of("light 5;", "dark 9;", "kind 5 1;", "dull 5;", "secret 5;",
            "sort 0;", "swap 0 0;")) {
            for (int i = 0; i < call.indexOf(' '); i++) {
                String ahead = call.substring(0, i);
                String behind = call.substring(i + 1);
                char letter = call.charAt(i);
                char next = letter == 'z' ? 'a' : (char) (letter + 1);
                nearly(ahead + behind);
                nearly(ahead + next + behind);
                nearly(ahead + (char) (letter - 32) + behind);
                nearly(ahead + letter + letter + behind);
            }
            lit(9).runs(call).is(1);
        }
    }

    private static void nearly(String text) {
        Watched x = lit(9);
        x.runs(text).is(-1000);
        x.order(9);
    }

    private static void runsOfLetters() {
        sentence("Programs", "Tokens are maximal runs of letters a to z");
        programIs("lights 5;", -1000);
        programIs("ligh 5;", -1000);
        programIs("alight 5;", -1000);
        programIs("lightz 5;", -1000);
        programIs("lightlight 5;", -1000);
        programIs("light5;lightdark 5;", -1007);
        programIs("li ght 5;", -1000);
        programIs("light 5a;", -1007);
        programIs("light 5z;", -1007);
        programIs("light abc;", -1006);
        // The codes next to a and z, and the capital letters, are tokens of their own.
        for (char other : new char[] {'`', '{', 'A', 'L', 'Z', '@', '['}) {
            programIs("light" + other + "5;", -1005);
            programIs(other + "light 5;", -1000);
            programIs("light 5" + other + ";", -1007);
        }
        programIs("Light 5;", -1000);
        programIs("LIGHT 5;", -1000);
    }

    private static void runsOfDigits() {
        sentence("Programs", "maximal runs of digits");
        Watched x = fresh();
        x.runs("light 12;").is(1);
        x.order(12);
        programIs("kind 123;", -1008);
        programIs("light 1 2;", -1008);
        // The codes next to 0 and 9 are tokens of their own.
        programIs("light 1/;", -1007);
        programIs("light 1:;", -1007);
        programIs("light /1;", -1006);
        programIs("light :1;", -1006);
        programIs("light 0;light 9;light 10;light 19;", 4);
    }

    private static void otherCharacters() {
        sentence("Programs", "any other character that is no space");
        for (int code = 1; code < 256; code++) {
            boolean letter = code >= 'a' && code <= 'z';
            boolean digit = code >= '0' && code <= '9';
            if (letter || digit || code == ';' || code == ' ') {
                continue;
            }
            char other = (char) code;
            programIs("" + other, -1000);
            programIs("light" + other + "5;", -1005);
            programIs("light 5 " + other + other, -1008);
            programIs("light 5; " + other + ";", -1009);
        }
        // Each alone is a token: the second one of two stands where no command begins.
        programIs("light 5;;;", -1008);
        programIs("light 5 ; ;", -1010);
    }

    private static void numbersOfFourDigits() {
        sentence("Programs", "A number is a run of 1 to 4 digits, the first of several not 0.");
        programIs("light 0;", 1);
        programIs("light 9;", 1);
        programIs("light 10;", 1);
        programIs("light 63;", 1);
        programIs("sort 0;", 1);
        // Read as numbers, but refused: the place is that of the word.
        programIs(" light 64;", -1001);
        programIs(" light 100;", -1001);
        programIs(" light 1000;", -1001);
        programIs(" light 9999;", -1001);
        // No numbers: the place is their own.
        programIs(" light 10000;", -1007);
        programIs(" light 00005;", -1007);
        programIs(" light 4294967301;", -1007);
        programIs(" light 00;", -1007);
        programIs(" light 05;", -1007);
        programIs(" light 005;", -1007);
        programIs(" light 0005;", -1007);
        programIs(" kind 5 00;", -1008);
        programIs(" kind 5 01;", -1008);
        programIs(" kind 5 10000;", -1008);
        programIs(" kind 05 1;", -1006);
    }

    private static void spacesWhereTheyMayStand() {
        sentence("Programs", "Spaces (code 32) may stand before, between and after tokens");
        Watched x = fresh();
        x.runs("   light   5   ;   kind   5   3   ;   ").is(2);
        x.order(5);
        x.spot(5, 0).is(3);
        // No other code is a space: not the tab, the line's end, the codes 31, 33 and 160.
        for (int code : new int[] {1, 9, 10, 11, 12, 13, 31, 33, 127, 133, 160}) {
            char other = (char) code;
            programIs(other + "light 5;", -1000);
            programIs("light" + other + "5;", -1005);
            programIs("light 5" + other + ";", -1007);
            programIs("light 5;" + other, -1008);
        }
    }

    private static void spacesWhereTheyMust() {
        sentence("Programs", "they are needed only between two runs of letters and between two "
            + "runs of digits");
        Watched x = fresh();
        x.runs("light5;light6;kind5 3;swap0 1;dark5;dull9;secret8;sort0;").is(8);
        x.order(6);
        x.spot(5, 0).is(3);
        // Without one two runs of digits are one, and two of letters as well.
        programIs("kind53;", -1006);
        programIs("swap00;", -1004);
        programIs("lightdark5;", -1000);
        programIs("light dark5;", -1006);
    }

    private static void commandsOneByOne() {
        sentence("Programs", "The commands are read and run one by one, each as its \";\" is "
            + "read.");
        // What one has done, the next one finds.
        programIs("light 5;light 6;swap 0 1;dark 6;dark 5;light 6;light 5;", 7);
        programIs("light 5;light 5;", -1008);
        programIs("light 5;dark 5;dark 5;", -1015);
        programIs("swap 0 0;light 5;", -1000);
        // An earlier call is refused before a later token is read, but not before its own ";".
        programIs("light 64;?", -1000);
        programIs("light 64?;", -1008);
        programIs("light 64", -1008);
        programIs("light 64 ", -1009);
    }

    private static void theFirstFailure() {
        sentence("Programs", "A program fails at the first token that is not allowed where it "
            + "stands, and at the first command whose call returns an error code (the place is "
            + "then that of its word).");
        programIs("light 5 6 7;", -1008);
        programIs("light;dark;", -1005);
        programIs("light 5;dark 6;sort 4;light 64;", -1008);
        programIs("light 5;   dark 6;", -1011);
        programIs("light 5;sort 4;light ?;", -1008);
        programIs("light 5;sort ?;light 64;", -1013);
        programIs("foo 5;light 64;", -1000);
    }

    private static void placesOfFailures() {
        sentence("Programs", "The place of a failure is the offset (from 0) of the first character "
            + "of the token, or the length of the text if it ends where something is missing.");
        programIs("abc", -1000);
        programIs(" abc", -1001);
        programIs("light abc;", -1006);
        programIs("light 12345;", -1006);
        programIs(" ".repeat(139) + "a", -1139);
        programIs(" ".repeat(139) + ";", -1139);
        programIs(" ".repeat(137) + "abc", -1137);
        // Where the text ends, spaces are a part of it.
        programIs("light", -1005);
        programIs("light ", -1006);
        programIs("light 5  ", -1009);
        programIs("kind 5  ", -1008);
        programIs("kind 5 3 ", -1009);
        programIs(" ".repeat(136) + "sort", -1140);
        programIs("sort" + " ".repeat(136), -1140);
        programIs("sort 0;".repeat(19) + "sort 10", -1140);
    }

    private static void nothingStaysOfAFailure() {
        sentence("Programs", "If a program fails, nothing that it has done stays.");
        String text = "light5;kind 5 3;dull5;secret5;dark 63;swap 0 1;sort 0;light 64;";
        // A full history, and one that has room: neither gets longer, nor loses its oldest.
        int[][] orders = {{9, 63, 4}, {9, 63, 4, 30, 31, 32}};
        for (int[] order : orders) {
            Consumer<Watched> setUp = x -> {
                for (int spot : order) {
                    x.light(spot);
                }
                x.type(text);
            };
            Watched.leavesAll(setUp, x -> x.run().is(-1054));
        }
        Watched x = lit(9, 63, 4);
        x.runs(text).is(-1054);
        x.order(9, 63, 4);
        x.count(2).is(0);
        x.count(3).is(0);
        x.spot(5, 0).is(0);
        x.count(11).is(3);
        x.count(12).is(63);
        x.run().is(-1054);
    }

    // ---- Snapshots

    private static void snapshots() {
        twoSlots();
        whatASnapshotKeeps();
        restoringMakesAllAsItWas();
        snapshotOfNothing();
    }

    private static void twoSlots() {
        sentence("Snapshots", "There are two slots for snapshots, empty at first.");
        Watched x = fresh();
        x.count(10).is(0);
        x.restore(0).is(ILLEGAL);
        x.restore(1).is(ILLEGAL);
        x.restore(2).is(INVALID);
        x.restore(-1).is(INVALID);
        x.take(2).is(INVALID);
        x.take(-1).is(INVALID);
        x.count(10).is(0);
        x.take(1).is(0);
        x.count(10).is(1);
        x.restore(0).is(ILLEGAL);
        x.light(5);
        x.take(0).is(1);
        x.count(10).is(2);
        // Each keeps its own.
        x.restore(1).is(0);
        x.restore(0).is(1);
        x.light(6);
        x.take(1).is(2);
        x.count(10).is(2);
        x.restore(0).is(1);
        x.restore(1).is(2);
    }

    private static void whatASnapshotKeeps() {
        sentence("Snapshots", "A snapshot keeps phosphors, the order, pictures and settings.");
        Watched x = lit(Watched.range(52, 63));
        int[] first = {8, 1, 1, 0, 1, 1};
        int[] then = {200, 4, 100, 199, 50, 100};
        for (int what = 0; what < 6; what++) {
            x.set(what, first[what]);
        }
        for (int spot : new int[] {0, 31, 32, 63}) {
            x.setPhosphor(spot, 3);
            x.draw(DULL, spot, 1);
            x.draw(SECRET, 63 - spot, 1);
        }
        x.take(1).is(12);
        for (int what = 0; what < 6; what++) {
            x.set(what, then[what]);
        }
        for (int spot = 0; spot < 64; spot++) {
            x.setPhosphor(spot, 1);
            x.draw(DULL, spot, spot % 2);
        }
        x.draw(SECRET, 0, 0);
        x.darken(63);
        x.sort(3);
        x.restore(1).is(12);
        x.order(Watched.range(52, 63));
        x.settings(first);
        x.count(2).is(4);
        x.count(3).is(4);
        for (int spot = 0; spot < 64; spot++) {
            boolean chosen = spot == 0 || spot == 31 || spot == 32 || spot == 63;
            x.spot(spot, 0).is(chosen ? 3 : 0);
            x.spot(spot, 1).is(chosen ? 1 : 0);
            x.spot(spot, 2).is(chosen ? 1 : 0);
        }
    }

    private static void restoringMakesAllAsItWas() {
        sentence("Snapshots", "To restore it makes all this as it was; nothing else changes.");
        Watched x = lit(5);
        x.take(0);
        x.light(6);
        x.take(1);
        x.type("dark 5;");
        x.count(11).is(4);
        x.restore(0).is(1);
        x.order(5);
        // The text, the slots and the history stay; the history has one more.
        x.count(12).is(7);
        x.count(10).is(2);
        x.count(11).is(5);
        x.run().is(1);
        x.order();
        // What is done after it does not reach into the slots.
        x.restore(0).is(1);
        x.order(5);
        x.restore(1).is(2);
        x.order(5, 6);
        x.undo().is(4);
        x.order(5);
        x.undo().is(3);
        x.order();
        x.undo().is(2);
        x.order(5);
        x.undo().is(1);
        x.order(5, 6);
    }

    private static void snapshotOfNothing() {
        sentence("Snapshots", "A snapshot keeps phosphors, the order, pictures and settings.");
        // A snapshot of a new screen is one, too: it makes a full screen empty.
        Watched x = fresh();
        x.take(0).is(0);
        for (int spot = 0; spot < 12; spot++) {
            x.light(spot).is(spot);
            x.draw(DULL, spot, 1);
            x.draw(SECRET, spot, 1);
            x.setPhosphor(spot, 2);
        }
        x.set(0, 8);
        x.restore(0).is(0);
        x.order();
        x.count(2).is(0);
        x.count(3).is(0);
        x.spot(0, 0).is(0);
        x.spot(11, 0).is(0);
        x.settings(60, 1, 20, 0, 4, 60);
        x.light(0).is(0);
    }

    // ---- Undo

    private static void undo() {
        historyOfFive();
        sixthState();
        stateWithoutTextAndHistory();
        snapshotsInStates();
        actionsThatChangeNothing();
        callsThatAreNoActions();
        undoOfTheLatest();
    }

    private static void historyOfFive() {
        sentence("Undo", "A history of at most 5 states is kept");
        Watched x = fresh();
        x.count(11).is(0);
        x.undo().is(ILLEGAL);
        for (int spot = 0; spot < 12; spot++) {
            x.light(spot);
            x.count(11).is(Math.min(5, spot + 1));
        }
        for (int left = 4; left >= 0; left--) {
            x.undo().is(left);
            x.count(11).is(left);
        }
        x.undo().is(ILLEGAL);
        x.count(11).is(0);
    }

    private static void sixthState() {
        sentence("Undo", "when a sixth one is recorded, the oldest one is dropped");
        // With five all can be undone; with six the first one stays done.
        Watched x = lit(1, 2, 3, 4, 5);
        for (int left = 4; left >= 0; left--) {
            x.undo().is(left);
        }
        x.order();
        x = lit(1, 2, 3, 4, 5, 6);
        for (int left = 4; left >= 0; left--) {
            x.undo().is(left);
            x.count(0).is(left + 1);
        }
        x.undo().is(ILLEGAL);
        x.order(1);
        // Round and round: of twelve the first seven stay done.
        x = lit(Watched.range(30, 41));
        for (int left = 4; left >= 0; left--) {
            x.undo().is(left);
            x.count(0).is(left + 7);
        }
        x.undo().is(ILLEGAL);
        x.order(Watched.range(30, 36));
        // A full history that gave one back has room for one again.
        x = lit(1, 2, 3, 4, 5, 6);
        x.undo().is(4);
        x.light(7).is(5);
        x.count(11).is(5);
        x.light(8).is(6);
        for (int left = 4; left >= 0; left--) {
            x.undo().is(left);
        }
        x.undo().is(ILLEGAL);
        x.order(1, 2);
    }

    private static void stateWithoutTextAndHistory() {
        sentence("Undo", "a state is everything but the text and the history (the snapshots belong "
            + "to it)");
        Watched x = lit(5);
        x.type("light 9;");
        x.undo().is(0);
        x.count(12).is(8);
        x.run().is(1);
        x.order(9);
        // The text that was run stays empty, and what was typed since stays.
        x.type("s");
        x.undo().is(0);
        x.order();
        x.count(12).is(1);
        x.clearText().is(1);
        // Everything else: each setting, both pictures, the phosphors, the order.
        int[] first = {60, 1, 20, 0, 4, 60};
        int[] other = {8, 4, 100, 199, 50, 1};
        for (int what = 0; what < 6; what++) {
            x.set(what, other[what]).is(first[what]);
            x.undo().is(0);
            x.count(13 + what).is(first[what]);
        }
        x.setPhosphor(63, 3);
        x.undo().is(0);
        x.spot(63, 0).is(0);
        x.draw(DULL, 63, 1);
        x.draw(SECRET, 0, 1);
        x.undo().is(1);
        x.count(2).is(1);
        x.count(3).is(0);
        x.undo().is(0);
        x.count(2).is(0);
    }

    private static void snapshotsInStates() {
        sentence("Undo", "(the snapshots belong to it)");
        Watched x = fresh();
        x.take(0);
        x.undo().is(0);
        x.count(10).is(0);
        x.restore(0).is(ILLEGAL);
        // One that was taken in place of another: the other is there again.
        x.light(5);
        x.take(1).is(1);
        x.light(6);
        x.take(1).is(2);
        x.undo().is(3);
        x.count(10).is(1);
        x.restore(1).is(1);
        x.order(5);
        x.undo().is(3);
        x.order(5, 6);
    }

    private static void actionsThatChangeNothing() {
        sentence("Undo", "Every successful call of a method that is called an action records the "
            + "state before it (also if nothing changes by it)");
        List<Consumer<Watched>> idle = List.of(
            x -> x.set(PERIOD, 60).is(60),
            x -> x.setPhosphor(5, 0).is(0),
            x -> x.exchange(0, 0).is(1),
            x -> x.sort(0).is(1),
            x -> x.draw(DULL, 9, 0).is(0),
            x -> x.take(0).is(1),
            x -> x.restore(0).is(1),
            x -> x.run().is(0));
        for (Consumer<Watched> action : idle) {
            Watched x = lit(5);
            x.take(0);
            x.count(11).is(2);
            action.accept(x);
            x.count(11).is(3);
            action.accept(x);
            x.count(11).is(4);
            x.undo().is(3);
            x.undo().is(2);
            x.order(5);
        }
        // The two that always change something.
        Watched x = fresh();
        x.light(5).is(0);
        x.count(11).is(1);
        x.darken(5).is(0);
        x.count(11).is(2);
        x.undo().is(1);
        x.order(5);
    }

    private static void callsThatAreNoActions() {
        sentence("Undo", "Every successful call of a method that is called an action records the "
            + "state before it");
        Watched x = lit(5, 6);
        x.append(';').is(1);
        x.clearText().is(1);
        for (int what = 0; what < 19; what++) {
            x.count(what);
        }
        for (int what = 0; what < 10; what++) {
            x.spot(5, what);
        }
        x.at(0).is(5);
        x.brightness(5, 0).is(0);
        x.firstWrong(0).is(NONE);
        x.firstWrong(1).is(NONE);
        x.bestStart(0).is(0);
        x.bestStart(1).is(0);
        x.leastTravel(-1).is(6);
        x.leastTravel(0).is(5);
        x.longest().is(50);
        x.ticks(0, 1).is(5);
        x.shortestPeriod().is(9);
        x.count(11).is(2);
        x.undo().is(1);
        x.count(11).is(1);
        x.order(5);
        x.undo().is(0);
        x.order();
    }

    private static void undoOfTheLatest() {
        sentence("Undo", "undo() removes the latest state from the history and restores it");
        Watched x = lit(5, 6);
        x.undo().is(1);
        x.order(5);
        // It is removed: what is undone once cannot be undone again, nor does it come back.
        x.undo().is(0);
        x.order();
        x.undo().is(ILLEGAL);
        x.order();
        x.light(7).is(0);
        x.undo().is(0);
        x.order();
    }

    // ---- Errors

    private static void errors() {
        refusedCallsOnAFullScreen();
        refusedCallsOnAFullText();
        refusedCallsOnANewObject();
        whatCouldBeChangesNothing();
        theErrorThatIsListedFirst();
        noneOnlyWithoutErrors();
        theConstants();
    }

    /** A screen on which everything is full: the order, the slots, the history; and a text. */
    private static void fillAll(Watched x) {
        for (int spot = 10; spot < 21; spot++) {
            x.light(spot);
        }
        x.setPhosphor(10, 1);
        x.draw(DULL, 12, 1);
        x.take(0);
        x.light(40).is(11);
        x.set(PERIOD, 100);
        x.take(1);
        x.setPhosphor(11, 3);
        x.draw(SECRET, 15, 1);
        x.exchange(0, 11);
        x.set(START, 77);
        x.sort(1).is(12);
        x.type("light 64;");
        x.count(11).is(5);
        x.count(10).is(2);
    }

    private static void refusedCallsOnAFullScreen() {
        sentence("Errors", "A call that returns an error code changes nothing.");
        int[][] settings = {{-1, 10}, {6, 10}, {0, 7}, {0, 201}, {1, 0}, {1, 5}, {2, 0}, {2, 101},
            {3, -1}, {3, 200}, {4, 0}, {4, 51}, {5, 0}, {5, 101}};
        for (int[] s : settings) {
            leavesAll(x -> x.set(s[0], s[1]), INVALID);
        }
        int[][] pairs = {{-1, 0}, {64, 0}, {10, -1}, {10, 4}};
        for (int[] p : pairs) {
            leavesAll(x -> x.setPhosphor(p[0], p[1]), INVALID);
        }
        leavesAll(x -> x.light(-1), INVALID);
        leavesAll(x -> x.light(64), INVALID);
        leavesAll(x -> x.light(10), ILLEGAL);
        leavesAll(x -> x.light(63), NO_ROOM);
        leavesAll(x -> x.darken(-1), INVALID);
        leavesAll(x -> x.darken(64), INVALID);
        leavesAll(x -> x.darken(63), ILLEGAL);
        leavesAll(x -> x.exchange(-1, 0), INVALID);
        leavesAll(x -> x.exchange(0, -1), INVALID);
        leavesAll(x -> x.exchange(12, 0), INVALID);
        leavesAll(x -> x.exchange(0, 12), INVALID);
        leavesAll(x -> x.sort(-1), INVALID);
        leavesAll(x -> x.sort(4), INVALID);
        int[][] drawings = {{-1, 0, 1}, {2, 0, 1}, {0, -1, 1}, {0, 64, 1}, {0, 0, -1}, {0, 0, 2},
            {1, 15, 2}};
        for (int[] d : drawings) {
            leavesAll(x -> x.draw(d[0], d[1], d[2]), INVALID);
        }
        for (int slot : new int[] {-1, 2}) {
            leavesAll(x -> x.take(slot), INVALID);
            leavesAll(x -> x.restore(slot), INVALID);
        }
        leavesAll(x -> x.append(0), INVALID);
        leavesAll(x -> x.append(256), INVALID);
        leavesAll(x -> x.run(), -1000);
        leavesAll(x -> x.count(19), INVALID);
        leavesAll(x -> x.spot(10, 10), INVALID);
        leavesAll(x -> x.at(-1), INVALID);
        leavesAll(x -> x.brightness(10, 100), INVALID);
        leavesAll(x -> x.firstWrong(2), INVALID);
        leavesAll(x -> x.bestStart(2), INVALID);
        leavesAll(x -> x.leastTravel(-2), INVALID);
        leavesAll(x -> x.ticks(4, 1), INVALID);
    }

    private interface Call {
        Watched.Answer on(Watched x);
    }

    /** Looks whether a call on the full screen answers this, and changes nothing. */
    private static void leavesAll(Call call, int want) {
        Watched.leavesAll(TermBoundariesTest::fillAll, x -> call.on(x).is(want));
    }

    private static void refusedCallsOnAFullText() {
        sentence("Errors", "A call that returns an error code changes nothing.");
        Watched x = fresh();
        x.type("light 9;" + " ".repeat(132));
        x.append('x').is(NO_ROOM);
        x.append(0).is(INVALID);
        x.append(256).is(INVALID);
        x.count(12).is(140);
        x.run().is(1);
        x.order(9);
    }

    private static void refusedCallsOnANewObject() {
        sentence("Errors", "A call that returns an error code changes nothing.");
        List<Consumer<Watched>> calls = List.of(
            x -> x.undo().is(ILLEGAL),
            x -> x.restore(0).is(ILLEGAL),
            x -> x.restore(1).is(ILLEGAL),
            x -> x.darken(0).is(ILLEGAL),
            x -> x.exchange(0, 0).is(INVALID));
        for (Consumer<Watched> call : calls) {
            Watched.leavesAll(x -> { }, call);
        }
    }

    private static void whatCouldBeChangesNothing() {
        sentence("Errors", "what could be, which changes nothing");
        // The order is 16, 10, 17, 11, 18, 12, 19, 40, 13, 20, 14 and the secret 15, which is lit
        // last, at tick 50: from tick 49 on it has 60 in four ticks.
        leavesAll(x -> x.bestStart(0), 49);
        leavesAll(x -> x.bestStart(1), 0);
        leavesAll(x -> x.longest(), NONE);
        leavesAll(x -> x.ticks(1, 1), 25);
        leavesAll(x -> x.shortestPeriod(), 51);
        leavesAll(x -> x.leastTravel(-1), 18);
        leavesAll(x -> x.leastTravel(0), 16);
    }

    private static void theErrorThatIsListedFirst() {
        sentence("Errors", "If several error conditions apply, the method returns the one that its "
            + "description lists first");
        // A full order: no room for any spot, and less for one that is in it or is none.
        Watched x = lit(Watched.range(0, 11));
        x.light(-1).is(INVALID);
        x.light(64).is(INVALID);
        x.light(0).is(ILLEGAL);
        x.light(11).is(ILLEGAL);
        x.light(12).is(NO_ROOM);
        // Nothing is in an empty order, and no slot is taken.
        x = fresh();
        x.darken(-1).is(INVALID);
        x.darken(64).is(INVALID);
        x.darken(0).is(ILLEGAL);
        x.restore(-1).is(INVALID);
        x.restore(2).is(INVALID);
        x.restore(0).is(ILLEGAL);
        x.type(" ".repeat(140));
        x.append(0).is(INVALID);
        x.append(256).is(INVALID);
        x.append(1).is(NO_ROOM);
        x.append(255).is(NO_ROOM);
    }

    private static void noneOnlyWithoutErrors() {
        sentence("Errors", "NONE is no error, and it is returned only if no error condition "
            + "applies.");
        Watched x = fresh();
        x.count(9).is(NONE);
        x.count(19).is(INVALID);
        x.spot(0, 3).is(NONE);
        x.spot(0, 4).is(NONE);
        x.spot(64, 3).is(INVALID);
        x.spot(-1, 4).is(INVALID);
        x.at(0).is(NONE);
        x.at(-1).is(INVALID);
        x.firstWrong(0).is(NONE);
        x.firstWrong(1).is(NONE);
        x.firstWrong(-1).is(INVALID);
        x.firstWrong(2).is(INVALID);
        x.leastTravel(0).is(NONE);
        x.leastTravel(-2).is(INVALID);
    }

    private static void theConstants() {
        String[] lines = {"`INVALID_ARGUMENT = -1`", "`ILLEGAL_STATE = -2`",
            "`CAPACITY_EXCEEDED = -3`", "`NONE = -9`"};
        int[] values = {PhosphorHush.INVALID_ARGUMENT, PhosphorHush.ILLEGAL_STATE,
            PhosphorHush.CAPACITY_EXCEEDED, PhosphorHush.NONE};
        int[] wanted = {-1, -2, -3, -9};
        for (int i = 0; i < lines.length; i++) {
            sentence("Errors", lines[i]);
            if (values[i] != wanted[i]) {
                fault("the constant is " + values[i]);
            }
        }
    }

    // ---- What it is

    private static void aLongLife() {
        sentence("What it is", "An object is used for at most 512 calls after it has been made");
        Watched x = fresh();
        for (int i = 0; i < 510; i++) {
            x.set(PERIOD, 8 + i % 193).is(i == 0 ? 60 : 8 + (i - 1) % 193);
        }
        x.count(11).is(5);
        x.undo().is(4);
    }
}
