import java.util.ArrayList;
import java.util.List;
import java.util.Random;

/** Compares the program with PlainModel in runs of calls that a seed makes, the same each time. */
public final class ModelTest {
    private static final int RUNS = 260;
    private static final int CALLS = 512;
    private static final String[] WORDS = {"light", "dark", "kind", "dull", "secret", "sort",
        "swap"};
    private static final String[] ODD = {"lights", "lig", "Sort", "00", "01", "12345", "0000",
        ",", "-", "\t", "\u00e9", "\n", "_", ";;", "64", "9999", "1000", "\u00ff", ":", "/", "`",
        "{", "@", "x"};

    private final Random random;
    private final PhosphorHush program = new PhosphorHush();
    private final PlainModel model = new PlainModel();
    /** The spots that this run prefers, so that orders and pictures meet. */
    private final int[] favourites = new int[14];
    private final List<String> calls = new ArrayList<>();
    private String pending = "";

    private ModelTest(int seed) {
        random = new Random(seed);
        int reach = seed % 3 == 0 ? 64 : seed % 3 == 1 ? 20 : 10;
        for (int i = 0; i < favourites.length; i++) {
            favourites[i] = random.nextInt(reach);
        }
    }

    public static void main(String[] args) {
        int wrong = 0;
        for (int seed = 1; seed <= RUNS && wrong < 3; seed++) {
            ModelTest run = new ModelTest(seed);
            if (!run.agrees()) {
                wrong++;
                System.out.println("seed " + seed + ": " + run.calls);
            }
        }
        System.out.println(wrong == 0 ? "the program and the model agree" : "they differ");
        if (wrong != 0) {
            System.exit(1);
        }
    }

    private boolean agrees() {
        // Half of the runs begin with an order that is nearly full.
        int ahead = random.nextBoolean() ? 12 : 0;
        for (int i = 0; i < CALLS; i++) {
            if (!(i < ahead ? light(favourites[i]) : step())) {
                return false;
            }
        }
        return true;
    }

    private boolean due(String call, int got, int want) {
        calls.add(call + "=" + want + (got == want ? "" : " but answered " + got));
        return got == want;
    }

    private int spot() {
        if (random.nextInt(12) == 0) {
            return random.nextInt(70) - 3;
        }
        return favourites[random.nextInt(favourites.length)];
    }

    private int about(int least, int most) {
        int kind = random.nextInt(40);
        if (kind == 0) {
            return random.nextBoolean() ? Integer.MIN_VALUE : Integer.MAX_VALUE;
        }
        if (kind < 4) {
            return random.nextBoolean() ? least - 1 : most + 1;
        }
        if (kind < 10) {
            return random.nextBoolean() ? least : most;
        }
        return least + random.nextInt(most - least + 1);
    }

    private boolean light(int spot) {
        return due("light(" + spot + ")", program.light(spot), model.light(spot));
    }

    private boolean step() {
        if (!pending.isEmpty()) {
            return type();
        }
        switch (random.nextInt(34)) {
            case 0: case 1: return set();
            case 2: case 3: {
                int spot = spot();
                int kind = about(0, 3);
                return due("setPhosphor(" + spot + "," + kind + ")",
                    program.setPhosphor(spot, kind), model.setPhosphor(spot, kind));
            }
            case 4: case 5: case 6: return light(spot());
            case 7: {
                int spot = spot();
                return due("darken(" + spot + ")", program.darken(spot), model.darken(spot));
            }
            case 8: {
                int one = about(0, 11);
                int other = about(0, 5);
                return due("exchange(" + one + "," + other + ")", program.exchange(one, other),
                    model.exchange(one, other));
            }
            case 9: {
                int rule = about(0, 3);
                return due("sort(" + rule + ")", program.sort(rule), model.sort(rule));
            }
            case 10: case 11: return draw();
            case 12: {
                int slot = about(0, 1);
                return due("take(" + slot + ")", program.take(slot), model.take(slot));
            }
            case 13: {
                int slot = about(0, 1);
                return due("restore(" + slot + ")", program.restore(slot), model.restore(slot));
            }
            case 14: return due("undo()", program.undo(), model.undo());
            case 15: return text();
            default: return look();
        }
    }

    private boolean set() {
        int[][] ranges = {{8, 200}, {1, 4}, {1, 100}, {0, 199}, {1, 50}, {1, 100}};
        int what = about(0, 5);
        int[] range = ranges[Math.floorMod(what, 6)];
        int value = about(range[0], range[1]);
        if (what == 0 && random.nextBoolean()) {
            value = 8 + random.nextInt(40);
        }
        if ((what == 2 || what == 5) && random.nextBoolean()) {
            value = 1 + random.nextInt(30);
        }
        return due("set(" + what + "," + value + ")", program.set(what, value),
            model.set(what, value));
    }

    private boolean draw() {
        int picture = about(0, 1);
        int spot = spot();
        int is = about(0, 1);
        return due("draw(" + picture + "," + spot + "," + is + ")",
            program.draw(picture, spot, is), model.draw(picture, spot, is));
    }

    private boolean text() {
        StringBuilder text = new StringBuilder();
        int commands = random.nextInt(5);
        for (int i = 0; i < commands; i++) {
            String word = WORDS[random.nextInt(WORDS.length)];
            text.append(spaces(false)).append(word).append(spaces(false));
            boolean two = word.equals("kind") || word.equals("swap");
            text.append(word.equals("sort") || word.equals("swap") ? random.nextInt(4)
                : Math.max(0, spot()));
            if (two) {
                text.append(spaces(true)).append(random.nextInt(4));
            }
            text.append(spaces(false)).append(";").append(spaces(false));
        }
        if (random.nextInt(3) == 0) {
            int place = random.nextInt(text.length() + 1);
            text.insert(place, ODD[random.nextInt(ODD.length)]);
        } else if (random.nextInt(4) == 0 && text.length() > 0) {
            text.deleteCharAt(random.nextInt(text.length()));
        }
        if (random.nextInt(60) == 0) {
            text.append(" ".repeat(Math.max(0, 142 - text.length())));
        }
        pending = text.append('\0').toString();
        return true;
    }

    private String spaces(boolean needed) {
        return needed ? " ".repeat(1 + random.nextInt(2)) : " ".repeat(random.nextInt(2));
    }

    /** Types the pending text; its end runs it, and then often clears it. */
    private boolean type() {
        char next = pending.charAt(0);
        pending = pending.substring(1);
        if (next != '\0') {
            return due("append(" + (int) next + ")", program.append(next), model.append(next));
        }
        if (!due("run()", program.run(), model.run())) {
            return false;
        }
        if (random.nextInt(4) == 0) {
            int odd = about(1, 255);
            return due("append(" + odd + ")", program.append(odd), model.append(odd));
        }
        return due("clearText()", program.clearText(), model.clearText());
    }

    private boolean look() {
        switch (random.nextInt(9)) {
            case 0: case 1: {
                int what = about(0, 18);
                return due("count(" + what + ")", program.count(what), model.count(what));
            }
            case 2: case 3: {
                int spot = spot();
                int what = about(0, 9);
                return due("spot(" + spot + "," + what + ")", program.spot(spot, what),
                    model.spot(spot, what));
            }
            case 4: {
                int position = about(0, 12);
                return due("at(" + position + ")", program.at(position), model.at(position));
            }
            case 5: {
                int spot = spot();
                int tick = about(0, random.nextBoolean() ? 199 : model.count(13) - 1);
                return due("brightness(" + spot + "," + tick + ")",
                    program.brightness(spot, tick), model.brightness(spot, tick));
            }
            case 6: {
                int by = about(0, 1);
                return due("firstWrong(" + by + ")", program.firstWrong(by),
                    model.firstWrong(by));
            }
            default: return couldBe();
        }
    }

    private boolean couldBe() {
        switch (random.nextInt(9)) {
            case 0: case 1: {
                int what = about(0, 1);
                return due("bestStart(" + what + ")", program.bestStart(what),
                    model.bestStart(what));
            }
            case 2: {
                // The model's search is dear: an order of many spots is tried seldom.
                if (model.count(0) > 6 && random.nextInt(6) != 0) {
                    return true;
                }
                int index = about(-1, 12);
                return due("leastTravel(" + index + ")", program.leastTravel(index),
                    model.leastTravel(index));
            }
            case 3: case 4: case 5:
                return due("longest()", program.longest(), model.longest());
            case 6: {
                int phosphor = about(0, 3);
                int bound = about(1, 100);
                return due("ticks(" + phosphor + "," + bound + ")",
                    program.ticks(phosphor, bound), model.ticks(phosphor, bound));
            }
            default:
                return due("shortestPeriod()", program.shortestPeriod(), model.shortestPeriod());
        }
    }
}
