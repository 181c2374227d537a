import java.util.ArrayDeque;
import java.util.ArrayList;
import java.util.Arrays;
import java.util.Collections;
import java.util.Comparator;
import java.util.Deque;
import java.util.HashMap;
import java.util.List;
import java.util.Map;
import java.util.TreeSet;
import java.util.regex.Matcher;
import java.util.regex.Pattern;

/**
 * The document once more, written as slowly and as plainly as can be, with the Java library and
 * without a look at the program: a beam that is followed tick by tick through two frames, pictures
 * that are sets, orders that are all tried. ModelTest compares the program with it.
 */
final class PlainModel {
    static final int INVALID = -1;
    static final int ILLEGAL = -2;
    static final int FULL = -3;
    static final int NONE = -9;

    private static final class Picture {
        int[] kinds = new int[64];
        List<Integer> order = new ArrayList<>();
        TreeSet<Integer> dull = new TreeSet<>();
        TreeSet<Integer> secret = new TreeSet<>();
        int[] settings = {60, 1, 20, 0, 4, 60};

        Picture copy() {
            Picture p = new Picture();
            p.kinds = kinds.clone();
            p.order = new ArrayList<>(order);
            p.dull = new TreeSet<>(dull);
            p.secret = new TreeSet<>(secret);
            p.settings = settings.clone();
            return p;
        }
    }

    private static final class Whole {
        Picture screen = new Picture();
        Picture[] slots = new Picture[2];

        Whole copy() {
            Whole w = new Whole();
            w.screen = screen.copy();
            for (int i = 0; i < 2; i++) {
                w.slots[i] = slots[i] == null ? null : slots[i].copy();
            }
            return w;
        }
    }

    private Whole now = new Whole();
    private Deque<Whole> history = new ArrayDeque<>();
    private String text = "";

    private void record() {
        history.addLast(now.copy());
        if (history.size() > 5) {
            history.removeFirst();
        }
    }

    private static boolean in(int value, int least, int most) {
        return value >= least && value <= most;
    }

    private static int way(int a, int b) {
        return Math.abs(a / 8 - b / 8) + Math.abs(a % 8 - b % 8);
    }

    // ---- actions

    int set(int what, int value) {
        int[][] ranges = {{8, 200}, {1, 4}, {1, 100}, {0, 199}, {1, 50}, {1, 100}};
        if (!in(what, 0, 5) || !in(value, ranges[what][0], ranges[what][1])) {
            return INVALID;
        }
        record();
        int before = now.screen.settings[what];
        now.screen.settings[what] = value;
        return before;
    }

    int setPhosphor(int spot, int phosphor) {
        if (!in(spot, 0, 63) || !in(phosphor, 0, 3)) {
            return INVALID;
        }
        record();
        int before = now.screen.kinds[spot];
        now.screen.kinds[spot] = phosphor;
        return before;
    }

    int light(int spot) {
        if (!in(spot, 0, 63)) {
            return INVALID;
        }
        if (now.screen.order.contains(spot)) {
            return ILLEGAL;
        }
        if (now.screen.order.size() == 12) {
            return FULL;
        }
        record();
        now.screen.order.add(spot);
        return now.screen.order.indexOf(spot);
    }

    int darken(int spot) {
        if (!in(spot, 0, 63)) {
            return INVALID;
        }
        int position = now.screen.order.indexOf(spot);
        if (position < 0) {
            return ILLEGAL;
        }
        record();
        now.screen.order.remove(Integer.valueOf(spot));
        return position;
    }

    int exchange(int one, int other) {
        int last = now.screen.order.size() - 1;
        if (!in(one, 0, last) || !in(other, 0, last)) {
            return INVALID;
        }
        record();
        Collections.swap(now.screen.order, one, other);
        return litTicks(now.screen.order, period()).size();
    }

    int sort(int rule) {
        if (!in(rule, 0, 3)) {
            return INVALID;
        }
        record();
        Picture screen = now.screen;
        Comparator<Integer> byNumber = Comparator.naturalOrder();
        if (rule == 0) {
            screen.order.sort(byNumber);
        } else if (rule == 1) {
            screen.order.sort(Comparator.comparing((Integer s) -> screen.secret.contains(s))
                .thenComparing(s -> way(0, s)).thenComparing(byNumber));
        } else if (rule == 2) {
            screen.order.sort(Comparator.comparing((Integer s) -> firstDark(screen.kinds[s]))
                .thenComparing(byNumber));
        } else {
            TreeSet<Integer> left = new TreeSet<>(screen.order);
            screen.order.clear();
            int from = 0;
            while (!left.isEmpty()) {
                int nearest = left.first();
                for (int s : left) {
                    if (way(from, s) < way(from, nearest)) {
                        nearest = s;
                    }
                }
                left.remove(nearest);
                screen.order.add(nearest);
                from = nearest;
            }
        }
        return litTicks(screen.order, period()).size();
    }

    private static int firstDark(int kind) {
        for (int n = 0; ; n++) {
            if (fade(kind, n) == 0) {
                return n;
            }
        }
    }

    int draw(int picture, int spot, int is) {
        if (!in(picture, 0, 1) || !in(spot, 0, 63) || !in(is, 0, 1)) {
            return INVALID;
        }
        record();
        TreeSet<Integer> set = picture == 0 ? now.screen.dull : now.screen.secret;
        if (is == 1) {
            set.add(spot);
        } else {
            set.remove(spot);
        }
        return set.size();
    }

    int take(int slot) {
        if (!in(slot, 0, 1)) {
            return INVALID;
        }
        record();
        now.slots[slot] = now.screen.copy();
        return now.screen.order.size();
    }

    int restore(int slot) {
        if (!in(slot, 0, 1)) {
            return INVALID;
        }
        if (now.slots[slot] == null) {
            return ILLEGAL;
        }
        record();
        now.screen = now.slots[slot].copy();
        return now.screen.order.size();
    }

    int undo() {
        if (history.isEmpty()) {
            return ILLEGAL;
        }
        now = history.removeLast();
        return history.size();
    }

    // ---- programs

    int append(int character) {
        if (!in(character, 1, 255)) {
            return INVALID;
        }
        if (text.length() == 140) {
            return FULL;
        }
        text += (char) character;
        return text.length();
    }

    int clearText() {
        int before = text.length();
        text = "";
        return before;
    }

    int run() {
        Whole before = now.copy();
        Deque<Whole> historyBefore = new ArrayDeque<>(history);
        int answer = commands();
        history = historyBefore;
        if (answer < 0) {
            now = before;
            return answer;
        }
        history.addLast(before);
        if (history.size() > 5) {
            history.removeFirst();
        }
        text = "";
        return answer;
    }

    private int commands() {
        Map<String, Integer> numbersOf = Map.of("light", 1, "dark", 1, "kind", 2, "dull", 1,
            "secret", 1, "sort", 1, "swap", 2);
        Matcher tokens = Pattern.compile("[a-z]+|[0-9]+|[^ ]", Pattern.DOTALL).matcher(text);
        int done = 0;
        while (tokens.find()) {
            int wordPlace = tokens.start();
            String word = tokens.group();
            if (!numbersOf.containsKey(word)) {
                return -1000 - wordPlace;
            }
            int[] numbers = new int[2];
            for (int i = 0; i < numbersOf.get(word); i++) {
                if (!tokens.find()) {
                    return -1000 - text.length();
                }
                if (!tokens.group().matches("0|[1-9][0-9]{0,3}")) {
                    return -1000 - tokens.start();
                }
                numbers[i] = Integer.parseInt(tokens.group());
            }
            if (!tokens.find()) {
                return -1000 - text.length();
            }
            if (!tokens.group().equals(";")) {
                return -1000 - tokens.start();
            }
            if (command(word, numbers[0], numbers[1]) < 0) {
                return -1000 - wordPlace;
            }
            done++;
        }
        return done;
    }

    private int command(String word, int first, int second) {
        return switch (word) {
            case "light" -> light(first);
            case "dark" -> darken(first);
            case "kind" -> setPhosphor(first, second);
            case "dull" -> draw(0, first, 1);
            case "secret" -> draw(1, first, 1);
            case "sort" -> sort(first);
            default -> exchange(first, second);
        };
    }

    // ---- beam, fading, eye and shutter

    private int period() {
        return now.screen.settings[0];
    }

    /** The ticks of the lit spots, in the order of the beam. */
    private List<Integer> litTicks(List<Integer> order, int period) {
        List<Integer> lit = new ArrayList<>();
        int tick = 0;
        int from = 0;
        for (int s : order) {
            tick += way(from, s) * now.screen.settings[1] + 1;
            if (tick >= period) {
                break;
            }
            lit.add(tick);
            from = s;
        }
        return lit;
    }

    private static int fade(int kind, int n) {
        if (kind == 0) {
            return Math.max(0, 100 - 20 * n);
        }
        if (kind == 1) {
            return Math.max(0, 100 - 4 * n);
        }
        if (kind == 3) {
            return n < 8 ? 100 : 0;
        }
        int brightness = 100;
        for (int i = 5; i <= n; i += 5) {
            brightness /= 2;
        }
        return brightness;
    }

    /** Follows a spot through two frames and tells its brightness in the second one. */
    private int[] frame(int spot) {
        int[] seen = new int[period()];
        List<Integer> lit = litTicks(now.screen.order, period());
        int position = now.screen.order.indexOf(spot);
        if (position < 0 || position >= lit.size()) {
            return seen;
        }
        int ago = -1;
        for (int t = 0; t < 2 * period(); t++) {
            ago = t % period() == lit.get(position) ? 0 : ago < 0 ? -1 : ago + 1;
            if (t >= period()) {
                seen[t - period()] = fade(now.screen.kinds[spot], ago);
            }
        }
        return seen;
    }

    private static int mean(int[] frame, int start, int length) {
        int sum = 0;
        for (int i = 0; i < length; i++) {
            sum += frame[(start + i) % frame.length];
        }
        return sum / length;
    }

    private int eyeMean(int spot) {
        return mean(frame(spot), 0, period());
    }

    private boolean eyeSees(int spot) {
        return eyeMean(spot) >= now.screen.settings[2];
    }

    private int shutterMean(int spot, int start, int length) {
        return mean(frame(spot), start % period(), length);
    }

    private boolean shutterSees(int spot) {
        return shutterMean(spot, now.screen.settings[3], now.screen.settings[4])
            >= now.screen.settings[5];
    }

    private List<Integer> wrong(int by) {
        List<Integer> wrong = new ArrayList<>();
        for (int s = 0; s < 64; s++) {
            if (by == 0 ? eyeSees(s) != now.screen.dull.contains(s)
                : shutterSees(s) != now.screen.secret.contains(s)) {
                wrong.add(s);
            }
        }
        return wrong;
    }

    // ---- looking

    int count(int what) {
        Picture screen = now.screen;
        List<Integer> lit = litTicks(screen.order, period());
        int number = 0;
        switch (what) {
            case 0: return screen.order.size();
            case 1: return lit.size();
            case 2: return screen.dull.size();
            case 3: return screen.secret.size();
            case 4:
            case 5:
                for (int s = 0; s < 64; s++) {
                    number += (what == 4 ? eyeSees(s) : shutterSees(s)) ? 1 : 0;
                }
                return number;
            case 6: return wrong(0).size();
            case 7: return wrong(1).size();
            case 8: return travel(screen.order);
            case 9: return lit.isEmpty() ? NONE : lit.get(lit.size() - 1);
            case 10: return (now.slots[0] == null ? 0 : 1) + (now.slots[1] == null ? 0 : 1);
            case 11: return history.size();
            case 12: return text.length();
            default: return in(what, 13, 18) ? screen.settings[what - 13] : INVALID;
        }
    }

    int spot(int spot, int what) {
        if (!in(spot, 0, 63) || !in(what, 0, 9)) {
            return INVALID;
        }
        Picture screen = now.screen;
        List<Integer> lit = litTicks(screen.order, period());
        int position = screen.order.indexOf(spot);
        switch (what) {
            case 0: return screen.kinds[spot];
            case 1: return screen.dull.contains(spot) ? 1 : 0;
            case 2: return screen.secret.contains(spot) ? 1 : 0;
            case 3: return position < 0 ? NONE : position;
            case 4: return position < 0 || position >= lit.size() ? NONE : lit.get(position);
            case 5: return eyeSees(spot) ? 1 : 0;
            case 6: return shutterSees(spot) ? 1 : 0;
            case 7: return eyeMean(spot);
            case 8: return shutterMean(spot, screen.settings[3], screen.settings[4]);
            default:
                int[] sorted = frame(spot);
                Arrays.sort(sorted);
                return sorted[sorted.length - 1] - sorted[0];
        }
    }

    int at(int position) {
        if (position < 0) {
            return INVALID;
        }
        return position < now.screen.order.size() ? now.screen.order.get(position) : NONE;
    }

    int brightness(int spot, int tick) {
        return in(spot, 0, 63) && in(tick, 0, period() - 1) ? frame(spot)[tick] : INVALID;
    }

    int firstWrong(int by) {
        if (!in(by, 0, 1)) {
            return INVALID;
        }
        List<Integer> wrong = wrong(by);
        return wrong.isEmpty() ? NONE : wrong.get(0);
    }

    // ---- what could be

    private int wrongForShutter(int[][] frames, int start, int length) {
        int wrong = 0;
        for (int s = 0; s < 64; s++) {
            boolean seen = mean(frames[s], start, length) >= now.screen.settings[5];
            wrong += seen != now.screen.secret.contains(s) ? 1 : 0;
        }
        return wrong;
    }

    private int[][] frames() {
        int[][] frames = new int[64][];
        for (int s = 0; s < 64; s++) {
            frames[s] = frame(s);
        }
        return frames;
    }

    int bestStart(int what) {
        if (!in(what, 0, 1)) {
            return INVALID;
        }
        int[][] frames = frames();
        int best = 0;
        int fewest = 1000;
        for (int start = 0; start < period(); start++) {
            int wrong = wrongForShutter(frames, start, now.screen.settings[4]);
            if (wrong < fewest) {
                best = start;
                fewest = wrong;
            }
        }
        return what == 0 ? best : fewest;
    }

    int longest() {
        int[][] frames = frames();
        int longest = NONE;
        for (int length = 1; length <= 50; length++) {
            if (wrongForShutter(frames, now.screen.settings[3] % period(), length) == 0) {
                longest = length;
            }
        }
        return longest;
    }

    private static int travel(List<Integer> order) {
        int sum = 0;
        int from = 0;
        for (int s : order) {
            sum += way(from, s);
            from = s;
        }
        return sum;
    }

    int leastTravel(int index) {
        if (index < -1) {
            return INVALID;
        }
        TreeSet<Integer> spots = new TreeSet<>(now.screen.order);
        List<Integer> best = spots.size() <= 6 ? bestOfAll(new ArrayList<>(), spots)
            : bestRest(0, new ArrayList<>(spots), new HashMap<>());
        if (index == -1) {
            return travel(best);
        }
        return index < best.size() ? best.get(index) : NONE;
    }

    /** Tries every order, the one with the smaller numbers first. */
    private static List<Integer> bestOfAll(List<Integer> begun, TreeSet<Integer> left) {
        if (left.isEmpty()) {
            return begun;
        }
        List<Integer> best = null;
        for (int s : left) {
            List<Integer> longer = new ArrayList<>(begun);
            longer.add(s);
            TreeSet<Integer> fewer = new TreeSet<>(left);
            fewer.remove(s);
            List<Integer> whole = bestOfAll(longer, fewer);
            if (best == null || travel(whole) < travel(best)) {
                best = whole;
            }
        }
        return best;
    }

    /** The best order of these spots, which are sorted, for a beam that stands at a spot. */
    private static List<Integer> bestRest(int from, List<Integer> left,
            Map<List<Integer>, List<Integer>> known) {
        List<Integer> key = new ArrayList<>(left);
        key.add(from);
        if (left.isEmpty() || known.containsKey(key)) {
            return left.isEmpty() ? left : known.get(key);
        }
        List<Integer> best = null;
        int least = 0;
        for (int s : left) {
            List<Integer> fewer = new ArrayList<>(left);
            fewer.remove(Integer.valueOf(s));
            List<Integer> rest = new ArrayList<>(List.of(s));
            rest.addAll(bestRest(s, fewer, known));
            int sum = way(from, s) + travel(rest) - way(0, s);
            if (best == null || sum < least) {
                best = rest;
                least = sum;
            }
        }
        known.put(key, best);
        return best;
    }

    int ticks(int phosphor, int bound) {
        if (!in(phosphor, 0, 3) || !in(bound, 1, 100)) {
            return INVALID;
        }
        int number = 0;
        for (int n = 0; n < 1000; n++) {
            number += fade(phosphor, n) >= bound ? 1 : 0;
        }
        return number;
    }

    int shortestPeriod() {
        for (int period = 8; period <= 200; period++) {
            if (litTicks(now.screen.order, period).size() == now.screen.order.size()) {
                return period;
            }
        }
        return NONE;
    }
}
