import java.util.Arrays;

/**
 * A phosphor screen that hides a secret picture in the fading of a dull one. All rows are made
 * once, with the object, and used again: no call makes a new object.
 */
public final class PhosphorHush {
    public static final int INVALID_ARGUMENT = -1;
    public static final int ILLEGAL_STATE = -2;
    public static final int CAPACITY_EXCEEDED = -3;
    public static final int NONE = -9;

    private static final int SPOTS = 64;
    private static final int SIDE = 8;
    private static final int ORDER_LIMIT = 12;
    private static final int SLOTS = 2;
    private static final int HISTORY_LIMIT = 5;
    private static final int TEXT_LIMIT = 140;
    private static final int LAST_CODE = 255;
    private static final int FAILED = -1000;

    private static final int FAST = 0;
    private static final int SLOW = 1;
    private static final int HALVING = 2;
    private static final int PHOSPHORS = 4;
    private static final int FULL = 100;

    private static final int DULL = 0;
    private static final int SECRET = 1;
    private static final int PICTURES = 2;

    private static final int PERIOD = 0;
    private static final int PACE = 1;
    private static final int EYE_BOUND = 2;
    private static final int START = 3;
    private static final int LENGTH = 4;
    private static final int SHUTTER_BOUND = 5;
    private static final int SETTINGS = 6;
    private static final int LEAST_PERIOD = 8;
    private static final int MOST_PERIOD = 200;
    private static final int MOST_LENGTH = 50;

    /** What count() answers from this number on is a setting. */
    private static final int FIRST_SETTING_COUNT = 13;

    private final State now;
    /** The kept states, oldest first; the one behind them is the draft of the next. */
    private final State[] history;
    private int kept;
    private final Program program;
    private final Travel travel;
    /** For bestStart(): how many spots are wrong for the shutter, by its start. */
    private final int[] wrongAt;

    public PhosphorHush() {
        now = new State();
        history = new State[HISTORY_LIMIT + 1];
        for (int i = 0; i < history.length; i++) {
            history[i] = new State();
        }
        program = new Program();
        travel = new Travel();
        wrongAt = new int[MOST_PERIOD];
    }

    // ---- screen, order, pictures

    public int set(int what, int value) {
        prepare();
        return finish(now.shown.putSetting(what, value));
    }

    public int setPhosphor(int spot, int phosphor) {
        prepare();
        return finish(now.shown.putPhosphor(spot, phosphor));
    }

    public int light(int spot) {
        prepare();
        return finish(now.shown.addSpot(spot));
    }

    public int darken(int spot) {
        prepare();
        return finish(now.shown.removeSpot(spot));
    }

    public int exchange(int one, int other) {
        prepare();
        return finish(now.shown.swapPositions(one, other));
    }

    public int sort(int rule) {
        prepare();
        return finish(now.shown.arrange(rule));
    }

    public int draw(int picture, int spot, int is) {
        prepare();
        return finish(now.shown.paint(picture, spot, is));
    }

    // ---- snapshots

    public int take(int slot) {
        prepare();
        return finish(now.keepSnapshot(slot));
    }

    public int restore(int slot) {
        prepare();
        return finish(now.showSnapshot(slot));
    }

    public int undo() {
        if (kept < 1) {
            return ILLEGAL_STATE;
        }
        kept--;
        now.copyFrom(history[kept]);
        return kept;
    }

    // ---- programs

    public int append(int character) {
        return program.addCharacter(character);
    }

    public int clearText() {
        return program.empty();
    }

    public int run() {
        prepare();
        int answer = program.runOn(now.shown);
        if (answer < 0) {
            now.copyFrom(history[kept]);
            return answer;
        }
        program.empty();
        return finish(answer);
    }

    // ---- looking

    public int count(int what) {
        Screen shown = now.shown;
        int length = shown.settings[LENGTH];
        switch (what) {
            case 0:
                return shown.size;
            case 1:
                return shown.litSize();
            case 2:
                return Long.bitCount(shown.pictures[DULL]);
            case 3:
                return Long.bitCount(shown.pictures[SECRET]);
            case 4:
                return Long.bitCount(shown.seenByEye());
            case 5:
                return Long.bitCount(shown.seenByShutter(length));
            case 6:
                return Long.bitCount(shown.wrong(DULL, shown.seenByEye()));
            case 7:
                return Long.bitCount(shown.wrong(SECRET, shown.seenByShutter(length)));
            case 8:
                return shown.sumOfWays();
            case 9:
                return shown.litSize() > 0 ? shown.arrival(shown.litSize() - 1) : NONE;
            case 10:
                return now.snapshots();
            case 11:
                return kept;
            case 12:
                return program.size();
            default:
                return settingCount(what);
        }
    }

    public int spot(int spot, int what) {
        if (!isSpot(spot)) {
            return INVALID_ARGUMENT;
        }
        Screen shown = now.shown;
        switch (what) {
            case 0:
                return shown.phosphors[spot];
            case 1:
                return bit(shown.pictures[DULL], spot);
            case 2:
                return bit(shown.pictures[SECRET], spot);
            case 3:
                return shown.positionOf(spot);
            case 4:
                return shown.litTick(spot);
            case 5:
                return bit(shown.seenByEye(), spot);
            case 6:
                return bit(shown.seenByShutter(shown.settings[LENGTH]), spot);
            case 7:
                return shown.eyeMean(spot);
            case 8:
                return shown.shutterMean(spot, shown.settings[LENGTH]);
            case 9:
                return shown.flicker(spot);
            default:
                return INVALID_ARGUMENT;
        }
    }

    public int at(int position) {
        if (position < 0) {
            return INVALID_ARGUMENT;
        }
        return position < now.shown.size ? now.shown.order[position] : NONE;
    }

    public int brightness(int spot, int tick) {
        Screen shown = now.shown;
        if (!isSpot(spot) || tick < 0 || tick >= shown.settings[PERIOD]) {
            return INVALID_ARGUMENT;
        }
        return shown.shine(spot, shown.litTick(spot), tick);
    }

    public int firstWrong(int by) {
        Screen shown = now.shown;
        switch (by) {
            case 0:
                return firstOf(shown.wrong(DULL, shown.seenByEye()));
            case 1:
                return firstOf(shown.wrong(SECRET, shown.seenByShutter(shown.settings[LENGTH])));
            default:
                return INVALID_ARGUMENT;
        }
    }

    // ---- what could be, which changes nothing

    public int bestStart(int what) {
        if (what < 0 || what > 1) {
            return INVALID_ARGUMENT;
        }
        now.shown.countWrong(wrongAt);
        int best = 0;
        for (int start = 1; start < now.shown.settings[PERIOD] && start < MOST_PERIOD; start++) {
            if (wrongAt[start] < wrongAt[best]) {
                best = start;
            }
        }
        return what == 0 ? best : wrongAt[best];
    }

    public int leastTravel(int index) {
        if (index < -1) {
            return INVALID_ARGUMENT;
        }
        travel.plan(now.shown.spotsOfOrder());
        return index < 0 ? travel.sumOfWays() : travel.stop(index);
    }

    public int longest() {
        for (int length = MOST_LENGTH; length > 0; length--) {
            if (now.shown.wrong(SECRET, now.shown.seenByShutter(length)) == 0) {
                return length;
            }
        }
        return NONE;
    }

    public int ticks(int phosphor, int bound) {
        if (!isPhosphor(phosphor) || bound < 1 || bound > FULL) {
            return INVALID_ARGUMENT;
        }
        return ticksAbove(phosphor, bound);
    }

    public int shortestPeriod() {
        int needed = now.shown.arrival(now.shown.size - 1) + 1;
        return needed > MOST_PERIOD ? NONE : Math.max(LEAST_PERIOD, needed);
    }

    // ---- the history

    /** Keeps the present state as a draft, before it is known whether the action succeeds. */
    private void prepare() {
        history[kept].copyFrom(now);
    }

    /** Makes the draft a state of the history if the action succeeded. */
    private int finish(int answer) {
        if (answer >= 0) {
            if (kept < HISTORY_LIMIT) {
                kept++;
            } else {
                dropOldest();
            }
        }
        return answer;
    }

    /** The dropped state becomes the next draft, so that no call makes a new one. */
    private void dropOldest() {
        State oldest = history[0];
        for (int i = 0; i < HISTORY_LIMIT; i++) {
            history[i] = history[i + 1];
        }
        history[HISTORY_LIMIT] = oldest;
    }

    private int settingCount(int what) {
        if (what < FIRST_SETTING_COUNT || what >= FIRST_SETTING_COUNT + SETTINGS) {
            return INVALID_ARGUMENT;
        }
        return now.shown.settings[what - FIRST_SETTING_COUNT];
    }

    // ---- numbers, sets of spots and fading

    private static boolean isSpot(int number) {
        return number >= 0 && number < SPOTS;
    }

    private static boolean isPhosphor(int number) {
        return number >= 0 && number < PHOSPHORS;
    }

    private static int way(int one, int other) {
        return Math.abs(one / SIDE - other / SIDE) + Math.abs(one % SIDE - other % SIDE);
    }

    private static int bit(long spots, int spot) {
        return (int) (spots >>> spot) & 1;
    }

    private static int firstOf(long spots) {
        for (int spot = 0; spot < SPOTS; spot++) {
            if (bit(spots, spot) == 1) {
                return spot;
            }
        }
        return NONE;
    }

    private static int glow(int phosphor, int age) {
        switch (phosphor) {
            case FAST:
                return Math.max(0, FULL - 20 * age);
            case SLOW:
                return Math.max(0, FULL - 4 * age);
            case HALVING:
                // Seven halvings leave nothing, and a shift by 32 would begin anew.
                return age < 35 ? FULL >> (age / 5) : 0;
            default:
                return age < 8 ? FULL : 0;
        }
    }

    /** No phosphor grows brighter again: the ticks that are bright enough are the first ones. */
    private static int ticksAbove(int phosphor, int bound) {
        int age = 0;
        while (age < MOST_PERIOD && glow(phosphor, age) >= bound) {
            age++;
        }
        return age;
    }

    /** What a snapshot keeps: phosphors, the order, pictures and settings. */
    private static final class Screen {
        private static final int[] LEAST = {LEAST_PERIOD, 1, 1, 0, 1, 1};
        private static final int[] MOST = {MOST_PERIOD, 4, FULL, 199, MOST_LENGTH, FULL};

        final int[] phosphors = new int[SPOTS];
        final int[] order = new int[ORDER_LIMIT];
        int size;
        /** A set of spots for each picture: bit s is spot s. */
        final long[] pictures = new long[PICTURES];
        final int[] settings = {60, 1, 20, 0, 4, 60};

        void copyFrom(Screen other) {
            System.arraycopy(other.phosphors, 0, phosphors, 0, SPOTS);
            System.arraycopy(other.order, 0, order, 0, ORDER_LIMIT);
            size = other.size;
            System.arraycopy(other.pictures, 0, pictures, 0, PICTURES);
            System.arraycopy(other.settings, 0, settings, 0, SETTINGS);
        }

        // -- changes; one that answers an error code has changed nothing

        int putSetting(int what, int value) {
            if (what < 0 || what >= SETTINGS || value < LEAST[what] || value > MOST[what]) {
                return INVALID_ARGUMENT;
            }
            int previous = settings[what];
            settings[what] = value;
            return previous;
        }

        int putPhosphor(int spot, int phosphor) {
            if (!isSpot(spot) || !isPhosphor(phosphor)) {
                return INVALID_ARGUMENT;
            }
            int previous = phosphors[spot];
            phosphors[spot] = phosphor;
            return previous;
        }

        int addSpot(int spot) {
            if (!isSpot(spot)) {
                return INVALID_ARGUMENT;
            }
            if (positionOf(spot) != NONE) {
                return ILLEGAL_STATE;
            }
            if (size >= ORDER_LIMIT) {
                return CAPACITY_EXCEEDED;
            }
            order[size] = spot;
            size++;
            return size - 1;
        }

        int removeSpot(int spot) {
            if (!isSpot(spot)) {
                return INVALID_ARGUMENT;
            }
            int position = positionOf(spot);
            if (position == NONE) {
                return ILLEGAL_STATE;
            }
            for (int i = position + 1; i < size; i++) {
                order[i - 1] = order[i];
            }
            size--;
            return position;
        }

        int swapPositions(int one, int other) {
            if (one < 0 || one >= size || other < 0 || other >= size) {
                return INVALID_ARGUMENT;
            }
            swap(one, other);
            return litSize();
        }

        private void swap(int one, int other) {
            int spot = order[one];
            order[one] = order[other];
            order[other] = spot;
        }

        int arrange(int rule) {
            if (rule < 0 || rule > 3) {
                return INVALID_ARGUMENT;
            }
            int before = 0;
            for (int i = 0; i < size; i++) {
                int first = i;
                for (int j = i + 1; j < size; j++) {
                    if (rank(rule, order[j], before) < rank(rule, order[first], before)) {
                        first = j;
                    }
                }
                swap(i, first);
                before = order[i];
            }
            return litSize();
        }

        /** What a rule of sort() puts first has the smaller rank; before is the spot ahead. */
        private int rank(int rule, int spot, int before) {
            switch (rule) {
                case 0:
                    return spot;
                case 1:
                    // No way is longer than 14, so a secret spot comes behind all others.
                    return (bit(pictures[SECRET], spot) * 15 + way(0, spot)) * SPOTS + spot;
                case 2:
                    return ticksAbove(phosphors[spot], 1) * SPOTS + spot;
                default:
                    return way(before, spot) * SPOTS + spot;
            }
        }

        int paint(int picture, int spot, int is) {
            if (picture < 0 || picture >= PICTURES || !isSpot(spot) || is < 0 || is > 1) {
                return INVALID_ARGUMENT;
            }
            if (is == 1) {
                pictures[picture] |= 1L << spot;
            } else {
                pictures[picture] &= ~(1L << spot);
            }
            return Long.bitCount(pictures[picture]);
        }

        // -- the beam

        int positionOf(int spot) {
            for (int i = 0; i < size; i++) {
                if (order[i] == spot) {
                    return i;
                }
            }
            return NONE;
        }

        long spotsOfOrder() {
            long spots = 0;
            for (int i = 0; i < size; i++) {
                spots |= 1L << order[i];
            }
            return spots;
        }

        int sumOfWays() {
            int sum = 0;
            int from = 0;
            for (int i = 0; i < size; i++) {
                sum += way(from, order[i]);
                from = order[i];
            }
            return sum;
        }

        /**
         * The tick in which the beam would light this position if the frame had no end; ahead of
         * the first position it stands at tick 0.
         */
        int arrival(int position) {
            int tick = 0;
            int from = 0;
            for (int i = 0; i <= position && i < size; i++) {
                tick += way(from, order[i]) * settings[PACE] + 1;
                from = order[i];
            }
            return tick;
        }

        /** Arrivals grow along the order: the lit spots are the first ones. */
        int litSize() {
            int lit = 0;
            while (lit < size && arrival(lit) < settings[PERIOD]) {
                lit++;
            }
            return lit;
        }

        int litTick(int spot) {
            int position = positionOf(spot);
            if (position == NONE || arrival(position) >= settings[PERIOD]) {
                return NONE;
            }
            return arrival(position);
        }

        // -- eye and shutter

        /** The brightness of a spot at a tick; lit is its litTick(), which is dear to find. */
        int shine(int spot, int lit, int tick) {
            if (lit == NONE) {
                return 0;
            }
            int age = tick - lit;
            return glow(phosphors[spot], age < 0 ? age + settings[PERIOD] : age);
        }

        private int sumOver(int spot, int start, int length) {
            int lit = litTick(spot);
            int sum = 0;
            int tick = start;
            for (int i = 0; i < length; i++) {
                sum += shine(spot, lit, tick);
                tick = next(tick);
            }
            return sum;
        }

        private int next(int tick) {
            return tick + 1 < settings[PERIOD] ? tick + 1 : 0;
        }

        private int startInFrame() {
            int period = settings[PERIOD];
            return period > 0 ? settings[START] % period : 0;
        }

        private static int mean(int sum, int ticks) {
            return ticks > 0 ? sum / ticks : 0;
        }

        int eyeMean(int spot) {
            return mean(sumOver(spot, 0, settings[PERIOD]), settings[PERIOD]);
        }

        int shutterMean(int spot, int length) {
            return mean(sumOver(spot, startInFrame(), length), length);
        }

        int flicker(int spot) {
            int lit = litTick(spot);
            int greatest = shine(spot, lit, 0);
            int smallest = greatest;
            for (int tick = 1; tick < settings[PERIOD]; tick++) {
                int bright = shine(spot, lit, tick);
                greatest = Math.max(greatest, bright);
                smallest = Math.min(smallest, bright);
            }
            return greatest - smallest;
        }

        long seenByEye() {
            return seen(0, settings[PERIOD], settings[EYE_BOUND]);
        }

        long seenByShutter(int length) {
            return seen(startInFrame(), length, settings[SHUTTER_BOUND]);
        }

        /** No bound is 0, so that nobody sees a spot outside the order. */
        private long seen(int start, int length, int bound) {
            long spots = 0;
            for (int i = 0; i < size; i++) {
                if (mean(sumOver(order[i], start, length), length) >= bound) {
                    spots |= 1L << order[i];
                }
            }
            return spots;
        }

        /** The spots that are wrong for one who sees these. */
        long wrong(int picture, long seen) {
            return pictures[picture] ^ seen;
        }

        /** Puts for each start of the shutter the number of wrong spots into wrongAt. */
        void countWrong(int[] wrongAt) {
            Arrays.fill(wrongAt, Long.bitCount(pictures[SECRET]));
            for (int i = 0; i < size; i++) {
                countSeen(order[i], wrongAt);
            }
        }

        /** The ticks of the next start are those of this one without the first, and one more. */
        private void countSeen(int spot, int[] wrongAt) {
            int change = bit(pictures[SECRET], spot) == 1 ? -1 : 1;
            int length = settings[LENGTH];
            int lit = litTick(spot);
            int sum = sumOver(spot, 0, length);
            int behind = 0;
            for (int i = 0; i < length; i++) {
                behind = next(behind);
            }
            for (int start = 0; start < settings[PERIOD] && start < wrongAt.length; start++) {
                if (mean(sum, length) >= settings[SHUTTER_BOUND]) {
                    wrongAt[start] += change;
                }
                sum += shine(spot, lit, behind) - shine(spot, lit, start);
                behind = next(behind);
            }
        }
    }

    /** What a state of the history keeps: the screen and the snapshots. */
    private static final class State {
        final Screen shown;
        private final Screen[] slots;
        private final boolean[] taken;

        State() {
            shown = new Screen();
            slots = new Screen[SLOTS];
            for (int i = 0; i < SLOTS; i++) {
                slots[i] = new Screen();
            }
            taken = new boolean[SLOTS];
        }

        void copyFrom(State other) {
            shown.copyFrom(other.shown);
            for (int i = 0; i < SLOTS; i++) {
                slots[i].copyFrom(other.slots[i]);
                taken[i] = other.taken[i];
            }
        }

        private static boolean isSlot(int number) {
            return number >= 0 && number < SLOTS;
        }

        int keepSnapshot(int slot) {
            if (!isSlot(slot)) {
                return INVALID_ARGUMENT;
            }
            slots[slot].copyFrom(shown);
            taken[slot] = true;
            return shown.size;
        }

        int showSnapshot(int slot) {
            if (!isSlot(slot)) {
                return INVALID_ARGUMENT;
            }
            if (!taken[slot]) {
                return ILLEGAL_STATE;
            }
            shown.copyFrom(slots[slot]);
            return shown.size;
        }

        int snapshots() {
            int number = 0;
            for (int i = 0; i < SLOTS; i++) {
                number += taken[i] ? 1 : 0;
            }
            return number;
        }
    }

    /**
     * The order with the least travel, found by sets of its spots: the rest of the travel depends
     * only on the spot where the beam is and on the set of those that are left.
     */
    private static final class Travel {
        /** The set that the plan is of; the plan of the empty set stands from the beginning. */
        private long planned;
        /** The spots of the set, the smallest number first. */
        private final int[] spots = new int[ORDER_LIMIT];
        private int size;
        /** The least travel by the set that is left and the index of the spot of the beam. */
        private final int[] rest = new int[(1 << ORDER_LIMIT) * ORDER_LIMIT];
        private final int[] stops = new int[ORDER_LIMIT];
        private int sum;

        /** A plan is made once for a set, as it is asked for position by position. */
        void plan(long set) {
            if (set == planned) {
                return;
            }
            planned = set;
            listSpots();
            fillRest();
            follow();
        }

        int sumOfWays() {
            return sum;
        }

        int stop(int position) {
            return position >= 0 && position < size ? stops[position] : NONE;
        }

        private void listSpots() {
            size = 0;
            for (int spot = 0; spot < SPOTS && size < ORDER_LIMIT; spot++) {
                if (bit(planned, spot) == 1) {
                    spots[size] = spot;
                    size++;
                }
            }
        }

        private void fillRest() {
            for (int left = 0; left < 1 << size; left++) {
                for (int i = 0; i < size; i++) {
                    if ((left >> i & 1) == 0) {
                        rest[left * ORDER_LIMIT + i] = leastFrom(left, spots[i]);
                    }
                }
            }
        }

        private int leastFrom(int left, int from) {
            int next = bestStep(left, from);
            return next < 0 ? 0 : travelBy(left, from, next);
        }

        private int travelBy(int left, int from, int next) {
            return way(from, spots[next]) + rest[(left & ~(1 << next)) * ORDER_LIMIT + next];
        }

        /** Of several steps that are as good the one to the smallest number; -1 if none is left. */
        private int bestStep(int left, int from) {
            int best = -1;
            int least = 0;
            for (int next = 0; next < size; next++) {
                if ((left >> next & 1) == 1) {
                    int travel = travelBy(left, from, next);
                    if (best < 0 || travel < least) {
                        best = next;
                        least = travel;
                    }
                }
            }
            return best;
        }

        private void follow() {
            sum = 0;
            int from = 0;
            int left = (1 << size) - 1;
            for (int position = 0; position < size; position++) {
                int next = bestStep(left, from);
                if (next < 0) {
                    return;
                }
                stops[position] = spots[next];
                sum += way(from, spots[next]);
                from = spots[next];
                left &= ~(1 << next);
            }
        }
    }

    /** The text, and how it is read and run as a program. */
    private static final class Program {
        private static final int LIGHT = 0;
        private static final int DARK = 1;
        private static final int KIND = 2;
        private static final int TO_DULL = 3;
        private static final int TO_SECRET = 4;
        private static final int SORT = 5;
        private static final int SWAP = 6;
        private static final int COMMANDS = 7;
        private static final int MOST_NUMBERS = 2;
        private static final int MOST_DIGITS = 4;

        private final char[] text = new char[TEXT_LIMIT];
        private int length;
        /** Where the reading stands: behind a token and the spaces that follow it. */
        private int place;
        private final int[] numbers = new int[MOST_NUMBERS];

        int size() {
            return length;
        }

        int addCharacter(int character) {
            if (character < 1 || character > LAST_CODE) {
                return INVALID_ARGUMENT;
            }
            if (length >= TEXT_LIMIT) {
                return CAPACITY_EXCEEDED;
            }
            text[length] = (char) character;
            length++;
            return length;
        }

        int empty() {
            int previous = length;
            length = 0;
            return previous;
        }

        /** Answers the number of commands, or the failure; then the screen may be changed. */
        int runOn(Screen screen) {
            int done = 0;
            moveTo(0);
            while (place < length && done < TEXT_LIMIT) {
                int word = place;
                int command = readWord();
                if (command < 0 || !readNumbers(numbersOf(command)) || !readEnd()) {
                    return FAILED - place;
                }
                if (carryOut(command, screen) < 0) {
                    return FAILED - word;
                }
                done++;
            }
            return done;
        }

        private void moveTo(int offset) {
            place = offset;
            while (place < length && text[place] == ' ') {
                place++;
            }
        }

        // -- tokens; one that is not allowed leaves the place where it begins

        private int readWord() {
            int end = place;
            while (end < length && text[end] >= 'a' && text[end] <= 'z') {
                end++;
            }
            for (int command = 0; command < COMMANDS; command++) {
                if (isWord(end, wordOf(command))) {
                    moveTo(end);
                    return command;
                }
            }
            return -1;
        }

        private boolean isWord(int end, String word) {
            if (end - place != word.length()) {
                return false;
            }
            for (int i = 0; i < word.length(); i++) {
                if (text[place + i] != word.charAt(i)) {
                    return false;
                }
            }
            return true;
        }

        private boolean readNumbers(int wanted) {
            for (int i = 0; i < wanted && i < MOST_NUMBERS; i++) {
                int number = readNumber();
                if (number < 0) {
                    return false;
                }
                numbers[i] = number;
            }
            return true;
        }

        private int readNumber() {
            int number = 0;
            int end = place;
            while (end < length && text[end] >= '0' && text[end] <= '9') {
                // A longer run is no number, whatever its value.
                if (end - place < MOST_DIGITS) {
                    number = number * 10 + text[end] - '0';
                }
                end++;
            }
            int digits = end - place;
            if (digits < 1 || digits > MOST_DIGITS || digits > 1 && text[place] == '0') {
                return -1;
            }
            moveTo(end);
            return number;
        }

        private boolean readEnd() {
            if (place >= length || text[place] != ';') {
                return false;
            }
            moveTo(place + 1);
            return true;
        }

        // -- commands

        private static String wordOf(int command) {
            switch (command) {
                case LIGHT:
                    return "light";
                case DARK:
                    return "dark";
                case KIND:
                    return "kind";
                case TO_DULL:
                    return "dull";
                case TO_SECRET:
                    return "secret";
                case SORT:
                    return "sort";
                default:
                    return "swap";
            }
        }

        private static int numbersOf(int command) {
            return command == KIND || command == SWAP ? 2 : 1;
        }

        private int carryOut(int command, Screen screen) {
            switch (command) {
                case LIGHT:
                    return screen.addSpot(numbers[0]);
                case DARK:
                    return screen.removeSpot(numbers[0]);
                case KIND:
                    return screen.putPhosphor(numbers[0], numbers[1]);
                case TO_DULL:
                    return screen.paint(DULL, numbers[0], 1);
                case TO_SECRET:
                    return screen.paint(SECRET, numbers[0], 1);
                case SORT:
                    return screen.arrange(numbers[0]);
                default:
                    return screen.swapPositions(numbers[0], numbers[1]);
            }
        }
    }
}
