import java.util.ArrayList;
import java.util.Arrays;
import java.util.List;
import java.util.function.Consumer;

/**
 * A PhosphorHush whose calls are kept: x.light(9).is(0) tells the whole run of calls if the answer
 * is another one, and a run of more calls than the document allows is a fault of the test.
 */
final class Watched {
    private static final int MOST_CALLS = 512;

    private final PhosphorHush program = new PhosphorHush();
    private final List<String> calls = new ArrayList<>();
    private final List<Integer> seen = new ArrayList<>();

    /** What a call answered; the calls up to it are told if it is not the answer that is due. */
    final class Answer {
        private final int number;
        final int value;

        private Answer(int number, int value) {
            this.number = number;
            this.value = value;
        }

        void is(int want) {
            if (value != want) {
                String run = String.join(", ", calls.subList(0, number));
                Sentences.fault(run + " answered " + value + ", due is " + want);
            }
        }
    }

    private Answer answer(String name, int value, int... arguments) {
        String list = Arrays.toString(arguments);
        calls.add(name + "(" + list.substring(1, list.length() - 1) + ")");
        if (calls.size() == MOST_CALLS + 1) {
            Sentences.fault("the test makes more than " + MOST_CALLS + " calls");
        }
        return new Answer(calls.size(), value);
    }

    // ---- objects that are ready to be looked at

    static Watched fresh() {
        return new Watched();
    }

    /** One with these spots in the order. */
    static Watched lit(int... spots) {
        Watched x = new Watched();
        for (int i = 0; i < spots.length; i++) {
            x.light(spots[i]).is(i);
        }
        return x;
    }

    /** The spots from one to another, as an order. */
    static int[] range(int first, int last) {
        int[] spots = new int[last - first + 1];
        for (int i = 0; i < spots.length; i++) {
            spots[i] = first + i;
        }
        return spots;
    }

    // ---- what several calls tell together

    /** Looks whether the order is this one, and ends there. */
    void order(int... spots) {
        count(0).is(spots.length);
        for (int i = 0; i < spots.length; i++) {
            at(i).is(spots[i]);
        }
        at(spots.length).is(Sentences.NONE);
    }

    void settings(int... values) {
        for (int i = 0; i < values.length; i++) {
            count(13 + i).is(values[i]);
        }
    }

    void type(String text) {
        int length = count(12).value;
        for (int i = 0; i < text.length(); i++) {
            append(text.charAt(i)).is(length + i + 1);
        }
    }

    /** Types a text behind what stands there, and runs it. */
    Answer runs(String text) {
        type(text);
        return run();
    }

    /** Runs a text on a new object. */
    static void programIs(String text, int want) {
        fresh().runs(text).is(want);
    }

    // ---- whether two objects are in the same state

    /**
     * Looks whether a call answers this, and leaves all as it was: the same set-up is made twice,
     * the call is made on one of the two, and they are compared.
     */
    static void leavesAll(Consumer<Watched> setUp, Consumer<Watched> call) {
        compare(setUp, call, Watched::look);
        compare(setUp, call, Watched::lookBack);
        compare(setUp, call, Watched::lookIntoSlotsAndText);
    }

    private static void compare(Consumer<Watched> setUp, Consumer<Watched> call,
            Consumer<Watched> looking) {
        Watched with = fresh();
        Watched without = fresh();
        setUp.accept(with);
        setUp.accept(without);
        call.accept(with);
        int begin = with.seen.size();
        int other = without.seen.size();
        looking.accept(with);
        looking.accept(without);
        List<Integer> changed = with.seen.subList(begin, with.seen.size());
        List<Integer> kept = without.seen.subList(other, without.seen.size());
        if (!changed.equals(kept)) {
            Sentences.fault(String.join(", ", with.calls) + " saw " + changed + ", due is " + kept);
        }
    }

    private void see(Answer answer) {
        seen.add(answer.value);
    }

    /** All that can be looked at. */
    private void look() {
        lookAround();
        for (int spot = 0; spot < 64; spot++) {
            for (int what = 0; what < 3; what++) {
                see(spot(spot, what));
            }
        }
    }

    private void lookAround() {
        for (int what = 0; what < 19; what++) {
            see(count(what));
        }
        for (int position = 0; position < 12; position++) {
            see(at(position));
        }
    }

    private void lookBack() {
        for (int i = 0; i < 6; i++) {
            see(undo());
            lookAround();
        }
    }

    private void lookIntoSlotsAndText() {
        see(run());
        lookAround();
        for (int slot = 0; slot < 2; slot++) {
            see(restore(slot));
            lookAround();
        }
        see(clearText());
    }

    // ---- the calls

    Answer set(int what, int value) {
        return answer("set", program.set(what, value), what, value);
    }

    Answer setPhosphor(int spot, int phosphor) {
        return answer("setPhosphor", program.setPhosphor(spot, phosphor), spot, phosphor);
    }

    Answer light(int spot) {
        return answer("light", program.light(spot), spot);
    }

    Answer darken(int spot) {
        return answer("darken", program.darken(spot), spot);
    }

    Answer exchange(int one, int other) {
        return answer("exchange", program.exchange(one, other), one, other);
    }

    Answer sort(int rule) {
        return answer("sort", program.sort(rule), rule);
    }

    Answer draw(int picture, int spot, int is) {
        return answer("draw", program.draw(picture, spot, is), picture, spot, is);
    }

    Answer take(int slot) {
        return answer("take", program.take(slot), slot);
    }

    Answer restore(int slot) {
        return answer("restore", program.restore(slot), slot);
    }

    Answer undo() {
        return answer("undo", program.undo());
    }

    Answer append(int character) {
        return answer("append", program.append(character), character);
    }

    Answer clearText() {
        return answer("clearText", program.clearText());
    }

    Answer run() {
        return answer("run", program.run());
    }

    Answer count(int what) {
        return answer("count", program.count(what), what);
    }

    Answer spot(int spot, int what) {
        return answer("spot", program.spot(spot, what), spot, what);
    }

    Answer at(int position) {
        return answer("at", program.at(position), position);
    }

    Answer brightness(int spot, int tick) {
        return answer("brightness", program.brightness(spot, tick), spot, tick);
    }

    Answer firstWrong(int by) {
        return answer("firstWrong", program.firstWrong(by), by);
    }

    Answer bestStart(int what) {
        return answer("bestStart", program.bestStart(what), what);
    }

    Answer leastTravel(int index) {
        return answer("leastTravel", program.leastTravel(index), index);
    }

    Answer longest() {
        return answer("longest", program.longest());
    }

    Answer ticks(int phosphor, int bound) {
        return answer("ticks", program.ticks(phosphor, bound), phosphor, bound);
    }

    Answer shortestPeriod() {
        return answer("shortestPeriod", program.shortestPeriod());
    }
}
