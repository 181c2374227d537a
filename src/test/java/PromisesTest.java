/** The promises one by one, with answers that were worked out by hand from the document. */
public final class PromisesTest {
    private static final int INVALID = -1;
    private static final int ILLEGAL = -2;
    private static final int NO_ROOM = -3;
    private static final int NONE = -9;
    private static final int LOW = Integer.MIN_VALUE;
    private static final int HIGH = Integer.MAX_VALUE;

    private static int wrong = 0;

    public static void main(String[] args) {
        newObject();
        settings();
        phosphors();
        lighting();
        darkening();
        exchanging();
        sortingByNumberSecretAndFading();
        sortingByNearness();
        drawing();
        taking();
        restoring();
        undoing();
        undoingEachAction();
        historyOfFive();
        appending();
        clearing();
        runningPrograms();
        failingPrograms();
        failingTokens();
        textsWithRemainders();
        fullTexts();
        counting();
        lookingAtSpots();
        lookingAtPositions();
        fadingOfEachPhosphor();
        halvingForLong();
        firstWrongSpot();
        bestStarts();
        leastTravels();
        leastTravelOfTwelve();
        longestLengths();
        ticksOfPhosphors();
        shortestPeriods();
        System.out.println(wrong == 0 ? "all promises hold" : wrong + " answers are not as due");
        if (wrong != 0) {
            System.exit(1);
        }
    }

    private static void due(String call, int got, int want) {
        if (got != want) {
            wrong++;
            System.out.println(call + " answered " + got + ", due is " + want);
        }
    }

    private static PhosphorHush lit(int... spots) {
        PhosphorHush x = new PhosphorHush();
        for (int i = 0; i < spots.length; i++) {
            due("1: light(" + spots[i] + ")", x.light(spots[i]), i);
        }
        return x;
    }

    private static void order(String when, PhosphorHush x, int... spots) {
        due(when + ": count(0)", x.count(0), spots.length);
        for (int i = 0; i < spots.length; i++) {
            due(when + ": at(" + i + ")", x.at(i), spots[i]);
        }
    }

    private static void type(PhosphorHush x, String text) {
        x.clearText();
        for (int i = 0; i < text.length(); i++) {
            due("12: append in \"" + text + "\"", x.append(text.charAt(i)), i + 1);
        }
    }

    private static void runs(PhosphorHush x, String text, int want) {
        type(x, text);
        due("14: run() of \"" + text + "\"", x.run(), want);
        due("14: length behind \"" + text + "\"", x.count(12), want < 0 ? text.length() : 0);
    }

    private static void newObject() {
        PhosphorHush x = new PhosphorHush();
        int[] counts = {0, 0, 0, 0, 0, 0, 0, 0, 0, NONE, 0, 0, 0, 60, 1, 20, 0, 4, 60};
        for (int what = 0; what < counts.length; what++) {
            due("1: count(" + what + ")", x.count(what), counts[what]);
        }
        int[] properties = {0, 0, 0, NONE, NONE, 0, 0, 0, 0, 0};
        for (int what = 0; what < properties.length; what++) {
            due("1: spot(0, " + what + ")", x.spot(0, what), properties[what]);
            due("1: spot(63, " + what + ")", x.spot(63, what), properties[what]);
        }
        due("1: undo()", x.undo(), ILLEGAL);
        due("1: restore(0)", x.restore(0), ILLEGAL);
        due("1: restore(1)", x.restore(1), ILLEGAL);
        due("1: run()", x.run(), 0);
    }

    private static void settings() {
        int[][] ranges = {{8, 200, 60}, {1, 4, 1}, {1, 100, 20}, {0, 199, 0}, {1, 50, 4},
            {1, 100, 60}};
        PhosphorHush x = new PhosphorHush();
        for (int what = 0; what < 6; what++) {
            String call = "2: set(" + what + ")";
            int[] range = ranges[what];
            due(call + " below", x.set(what, range[0] - 1), INVALID);
            due(call + " above", x.set(what, range[1] + 1), INVALID);
            due(call + " far below", x.set(what, LOW), INVALID);
            due(call + " far above", x.set(what, HIGH), INVALID);
            due(call + " least", x.set(what, range[0]), range[2]);
            due(call + " most", x.set(what, range[1]), range[0]);
            due(call + " same", x.set(what, range[1]), range[1]);
            due(call + " kept", x.count(13 + what), range[1]);
        }
        due("2: set(-1)", x.set(-1, 10), INVALID);
        due("2: set(6)", x.set(6, 10), INVALID);
        due("2: set(HIGH)", x.set(HIGH, 10), INVALID);
        due("2: set(LOW)", x.set(LOW, 10), INVALID);
        due("2: history", x.count(11), 5);
    }

    private static void phosphors() {
        PhosphorHush x = new PhosphorHush();
        due("3: setPhosphor(0, 3)", x.setPhosphor(0, 3), 0);
        due("3: setPhosphor(0, 2)", x.setPhosphor(0, 2), 3);
        due("3: setPhosphor(63, 1)", x.setPhosphor(63, 1), 0);
        due("3: setPhosphor(63, 1) again", x.setPhosphor(63, 1), 1);
        due("3: setPhosphor(-1, 0)", x.setPhosphor(-1, 0), INVALID);
        due("3: setPhosphor(64, 0)", x.setPhosphor(64, 0), INVALID);
        due("3: setPhosphor(0, -1)", x.setPhosphor(0, -1), INVALID);
        due("3: setPhosphor(0, 4)", x.setPhosphor(0, 4), INVALID);
        due("3: spot(0, 0)", x.spot(0, 0), 2);
        due("3: spot(1, 0)", x.spot(1, 0), 0);
        due("3: spot(63, 0)", x.spot(63, 0), 1);
        due("3: history", x.count(11), 4);
    }

    private static void lighting() {
        PhosphorHush x = lit(0, 63, 5, 6, 7, 8, 9, 10, 11, 12, 13);
        due("4: light(-1)", x.light(-1), INVALID);
        due("4: light(64)", x.light(64), INVALID);
        due("4: light(63)", x.light(63), ILLEGAL);
        due("4: light(14)", x.light(14), 11);
        due("4: light(15) as the 13th", x.light(15), NO_ROOM);
        due("4: light(0) when full", x.light(0), ILLEGAL);
        due("4: light(64) when full", x.light(64), INVALID);
        order("4", x, 0, 63, 5, 6, 7, 8, 9, 10, 11, 12, 13, 14);
    }

    private static void darkening() {
        PhosphorHush x = lit(4, 0, 63, 9);
        due("5: darken(-1)", x.darken(-1), INVALID);
        due("5: darken(64)", x.darken(64), INVALID);
        due("5: darken(5)", x.darken(5), ILLEGAL);
        due("5: darken(0)", x.darken(0), 1);
        order("5", x, 4, 63, 9);
        due("5: darken(9)", x.darken(9), 2);
        due("5: darken(4)", x.darken(4), 0);
        order("5", x, 63);
        due("5: darken(4) again", x.darken(4), ILLEGAL);
        due("5: light(4)", x.light(4), 1);
        due("5: undo()", x.undo(), 4);
        due("5: undo()", x.undo(), 3);
        order("5 undone", x, 4, 63);
    }

    private static void exchanging() {
        PhosphorHush x = new PhosphorHush();
        due("6: exchange(0, 0) of none", x.exchange(0, 0), INVALID);
        x = lit(1, 63, 2);
        due("6: set(0, 18)", x.set(0, 18), 60);
        // The beam comes to 1 at 2, to 63 at 16 and to 2 at 29; the other way about, 1, 2, 63.
        due("6: count(1)", x.count(1), 2);
        due("6: exchange(1, 2)", x.exchange(1, 2), 3);
        order("6", x, 1, 2, 63);
        due("6: exchange(2, 0)", x.exchange(2, 0), 1);
        order("6", x, 63, 2, 1);
        due("6: exchange(1, 1)", x.exchange(1, 1), 1);
        due("6: exchange(-1, 0)", x.exchange(-1, 0), INVALID);
        due("6: exchange(0, -1)", x.exchange(0, -1), INVALID);
        due("6: exchange(3, 0)", x.exchange(3, 0), INVALID);
        due("6: exchange(0, 3)", x.exchange(0, 3), INVALID);
        order("6", x, 63, 2, 1);
    }

    private static void sortingByNumberSecretAndFading() {
        PhosphorHush x = lit(16, 9, 2, 1, 8, 63, 0);
        due("7: sort(-1)", x.sort(-1), INVALID);
        due("7: sort(4)", x.sort(4), INVALID);
        order("7", x, 16, 9, 2, 1, 8, 63, 0);
        due("7: sort(0)", x.sort(0), 7);
        order("7 rule 0", x, 0, 1, 2, 8, 9, 16, 63);
        x.draw(1, 0, 1);
        x.draw(1, 2, 1);
        x.draw(0, 63, 1);
        due("7: sort(1)", x.sort(1), 7);
        // Ways from spot 0: 1 and 8 have 1, 9 and 16 have 2, 63 has 14.
        order("7 rule 1", x, 1, 8, 9, 16, 63, 0, 2);
        x.setPhosphor(0, 2);
        x.setPhosphor(1, 1);
        x.setPhosphor(2, 3);
        x.setPhosphor(9, 3);
        x.setPhosphor(16, 1);
        due("7: sort(2)", x.sort(2), 7);
        // Dark are fast ones from 5 on, stepping ones from 8, slow ones from 25, halving from 35.
        order("7 rule 2", x, 8, 63, 2, 9, 1, 16, 0);
        PhosphorHush empty = new PhosphorHush();
        for (int rule = 0; rule < 4; rule++) {
            due("7: sort(" + rule + ") of none", empty.sort(rule), 0);
        }
        due("7: history", empty.count(11), 4);
    }

    private static void sortingByNearness() {
        PhosphorHush x = lit(18, 9, 1, 8);
        due("7: sort(3)", x.sort(3), 4);
        order("7 rule 3", x, 1, 9, 8, 18);
        x = lit(20, 6, 34, 48);
        due("7: set(0, 20)", x.set(0, 20), 60);
        // From 0: 20, 6 and 34, 48 are 6 away: 6; from there 20 at 4; then 34; then 48.
        due("7: sort(3) in 20 ticks", x.sort(3), 3);
        order("7 rule 3", x, 6, 20, 34, 48);
        x = lit(63, 0, 7, 56);
        due("7: sort(3) with spot 0", x.sort(3), 4);
        order("7 rule 3", x, 0, 7, 63, 56);
    }

    private static void drawing() {
        PhosphorHush x = new PhosphorHush();
        due("8: draw(0, 0, 1)", x.draw(0, 0, 1), 1);
        due("8: draw(0, 63, 1)", x.draw(0, 63, 1), 2);
        due("8: draw(0, 63, 1) again", x.draw(0, 63, 1), 2);
        due("8: draw(1, 31, 1)", x.draw(1, 31, 1), 1);
        due("8: draw(1, 32, 1)", x.draw(1, 32, 1), 2);
        due("8: draw(1, 0, 0)", x.draw(1, 0, 0), 2);
        due("8: draw(0, 0, 0)", x.draw(0, 0, 0), 1);
        due("8: draw(-1, 0, 1)", x.draw(-1, 0, 1), INVALID);
        due("8: draw(2, 0, 1)", x.draw(2, 0, 1), INVALID);
        due("8: draw(0, -1, 1)", x.draw(0, -1, 1), INVALID);
        due("8: draw(0, 64, 1)", x.draw(0, 64, 1), INVALID);
        due("8: draw(0, 1, 2)", x.draw(0, 1, 2), INVALID);
        due("8: draw(0, 1, -1)", x.draw(0, 1, -1), INVALID);
        due("8: spot(0, 1)", x.spot(0, 1), 0);
        due("8: spot(63, 1)", x.spot(63, 1), 1);
        due("8: spot(63, 2)", x.spot(63, 2), 0);
        due("8: spot(31, 2)", x.spot(31, 2), 1);
        due("8: spot(32, 2)", x.spot(32, 2), 1);
        due("8: count(2)", x.count(2), 1);
        due("8: count(3)", x.count(3), 2);
        for (int spot = 0; spot < 64; spot++) {
            x.draw(1, spot, 1);
        }
        due("8: count(3) of all", x.count(3), 64);
    }

    private static void taking() {
        PhosphorHush x = lit(7);
        due("9: take(-1)", x.take(-1), INVALID);
        due("9: take(2)", x.take(2), INVALID);
        due("9: count(10)", x.count(10), 0);
        due("9: take(1)", x.take(1), 1);
        due("9: count(10)", x.count(10), 1);
        due("9: light(8)", x.light(8), 1);
        due("9: take(1) again", x.take(1), 2);
        due("9: count(10)", x.count(10), 1);
        due("9: take(0)", x.take(0), 2);
        due("9: count(10)", x.count(10), 2);
        due("9: undo()", x.undo(), 4);
        due("9: count(10) undone", x.count(10), 1);
        due("9: restore(0) undone", x.restore(0), ILLEGAL);
        due("9: undo() of the second one", x.undo(), 3);
        due("9: restore(1)", x.restore(1), 1);
        order("9", x, 7);
    }

    private static void restoring() {
        PhosphorHush x = lit(7, 8);
        x.setPhosphor(7, 2);
        x.draw(0, 1, 1);
        x.draw(1, 2, 1);
        x.set(0, 50);
        x.set(5, 77);
        due("10: take(0)", x.take(0), 2);
        x.darken(7);
        x.setPhosphor(7, 3);
        x.draw(0, 1, 0);
        x.draw(1, 3, 1);
        x.set(0, 9);
        x.set(5, 1);
        x.append('x');
        due("10: restore(-1)", x.restore(-1), INVALID);
        due("10: restore(2)", x.restore(2), INVALID);
        due("10: restore(1)", x.restore(1), ILLEGAL);
        due("10: count(13) before", x.count(13), 9);
        due("10: restore(0)", x.restore(0), 2);
        order("10", x, 7, 8);
        due("10: spot(7, 0)", x.spot(7, 0), 2);
        due("10: spot(1, 1)", x.spot(1, 1), 1);
        due("10: count(3)", x.count(3), 1);
        due("10: spot(2, 2)", x.spot(2, 2), 1);
        due("10: count(13)", x.count(13), 50);
        due("10: count(18)", x.count(18), 77);
        due("10: count(12)", x.count(12), 1);
        due("10: count(10)", x.count(10), 1);
        due("10: light(9)", x.light(9), 2);
        due("10: restore(0) again", x.restore(0), 2);
        due("10: undo()", x.undo(), 4);
        order("10 undone", x, 7, 8, 9);
    }

    private static void undoing() {
        PhosphorHush x = lit(7);
        x.append('a');
        due("11: undo()", x.undo(), 0);
        due("11: count(0)", x.count(0), 0);
        due("11: count(12)", x.count(12), 1);
        due("11: undo() of none", x.undo(), ILLEGAL);
        due("11: a failed call", x.light(64), INVALID);
        due("11: looks", x.count(0) + x.at(0) + x.leastTravel(-1), NONE);
        due("11: count(11)", x.count(11), 0);
        x.clearText();
        due("11: count(11) with texts", x.count(11), 0);
        due("11: a call that changes nothing", x.sort(0), 0);
        due("11: count(11)", x.count(11), 1);
        due("11: a second one", x.draw(0, 5, 0), 0);
        due("11: undo()", x.undo(), 1);
        due("11: undo()", x.undo(), 0);
    }

    private static void undoingEachAction() {
        PhosphorHush x = lit(3, 1);
        x.append(';');
        x.set(0, 90);
        undone(x);
        due("11: count(13)", x.count(13), 60);
        x.setPhosphor(3, 2);
        undone(x);
        due("11: spot(3, 0)", x.spot(3, 0), 0);
        x.light(2);
        undone(x);
        x.darken(3);
        undone(x);
        x.exchange(0, 1);
        undone(x);
        x.sort(0);
        undone(x);
        x.draw(0, 5, 1);
        undone(x);
        due("11: count(2)", x.count(2), 0);
        x.take(0);
        undone(x);
        due("11: count(10)", x.count(10), 0);
        due("11: run() fails", x.run(), -1000);
        x.clearText();
        x.run();
        undone(x);
        x.take(1);
        x.darken(1);
        x.restore(1);
        due("11: undo() of restore()", x.undo(), 4);
        order("11", x, 3);
        due("11: undo() of darken()", x.undo(), 3);
        undone(x);
    }

    /** Undoes what was done behind lit(3, 1), and looks at what stands then. */
    private static void undone(PhosphorHush x) {
        due("11: undo()", x.undo(), 2);
        order("11", x, 3, 1);
    }

    private static void historyOfFive() {
        PhosphorHush x = new PhosphorHush();
        for (int i = 0; i < 8; i++) {
            x.light(i);
            due("11: count(11)", x.count(11), Math.min(5, i + 1));
        }
        for (int left = 4; left >= 0; left--) {
            due("11: undo()", x.undo(), left);
            due("11: count(0)", x.count(0), 3 + left);
        }
        due("11: undo() of the sixth", x.undo(), ILLEGAL);
        order("11", x, 0, 1, 2);
        x.light(60);
        x.undo();
        order("11 again", x, 0, 1, 2);
    }

    private static void appending() {
        PhosphorHush x = new PhosphorHush();
        due("12: append(0)", x.append(0), INVALID);
        due("12: append(256)", x.append(256), INVALID);
        due("12: append(-1)", x.append(-1), INVALID);
        due("12: append(1)", x.append(1), 1);
        due("12: append(255)", x.append(255), 2);
        for (int length = 3; length <= 140; length++) {
            due("12: append(59)", x.append(59), length);
        }
        due("12: append(59) when full", x.append(59), NO_ROOM);
        due("12: append(0) when full", x.append(0), INVALID);
        due("12: count(12)", x.count(12), 140);
        due("12: count(11)", x.count(11), 0);
    }

    private static void clearing() {
        PhosphorHush x = new PhosphorHush();
        due("13: clearText() of none", x.clearText(), 0);
        x.append('s');
        x.append('o');
        due("13: clearText()", x.clearText(), 2);
        due("13: count(12)", x.count(12), 0);
        due("13: clearText() again", x.clearText(), 0);
        due("13: count(11)", x.count(11), 0);
        type(x, "light 3;");
        due("13: run()", x.run(), 1);
        due("13: clearText() behind run()", x.clearText(), 0);
    }

    private static void runningPrograms() {
        PhosphorHush x = new PhosphorHush();
        runs(x, "", 0);
        due("14: count(11) of an empty one", x.count(11), 1);
        runs(x, "   ", 0);
        due("14: count(11) of spaces", x.count(11), 2);
        runs(x, "  light5 ;light  63; light 0;", 3);
        order("14", x, 5, 63, 0);
        due("14: count(11) of three commands", x.count(11), 3);
        runs(x, "swap 0 2;dark63;kind 5 3;kind 0 1;dull 5;secret 0;secret 9;sort 1;", 8);
        order("14", x, 5, 0);
        due("14: spot(5, 0)", x.spot(5, 0), 3);
        due("14: spot(0, 0)", x.spot(0, 0), 1);
        due("14: count(2)", x.count(2), 1);
        due("14: count(3)", x.count(3), 2);
        due("14: spot(5, 1)", x.spot(5, 1), 1);
        due("14: spot(9, 2)", x.spot(9, 2), 1);
        due("14: undo()", x.undo(), 3);
        order("14 undone", x, 5, 63, 0);
        due("14: count(3) undone", x.count(3), 0);
        due("14: count(12) undone", x.count(12), 0);
        StringBuilder many = new StringBuilder();
        for (int i = 0; i < 23; i++) {
            many.append("sort").append(i % 4).append(';');
        }
        runs(x, many.append("  ").toString(), 23);
    }

    private static void failingPrograms() {
        PhosphorHush x = lit(1, 2);
        x.undo();
        runs(x, "dull 1;kind 1 2;light 3; light 3;", -1025);
        order("14 failed", x, 1);
        due("14: count(2) failed", x.count(2), 0);
        due("14: spot(1, 0) failed", x.spot(1, 0), 0);
        due("14: count(11) failed", x.count(11), 1);
        due("14: run() again", x.run(), -1025);
        runs(x, "light 64;", -1000);
        runs(x, " dark 3;", -1001);
        runs(x, "sort 4;", -1000);
        runs(x, "swap 0 1;", -1000);
        runs(x, "kind 5 4;", -1000);
        runs(x, "dull 9999;", -1000);
        runs(x, "secret 64;", -1000);
        runs(x, "light 64; ?", -1000);
        runs(x, "light 64 ?", -1009);
        runs(x, "light 64", -1008);
        runs(x, "light4;light5;light6;light7;light8;light9;light10;light11;light12;light13;"
            + "light14; light15;", -1083);
        order("14 failed", x, 1);
        due("14: undo()", x.undo(), 0);
    }

    private static void failingTokens() {
        PhosphorHush x = new PhosphorHush();
        runs(x, ";", -1000);
        runs(x, " 5;", -1001);
        runs(x, "lights 1;", -1000);
        runs(x, "ligh 1;", -1000);
        runs(x, "lightz 1;", -1000);
        runs(x, "alight 1;", -1000);
        runs(x, "light{1;", -1005);
        runs(x, "light`1;", -1005);
        runs(x, "light 1:", -1007);
        runs(x, "light /;", -1006);
        runs(x, "Light 1;", -1000);
        runs(x, "lighT 1;", -1000);
        runs(x, "light", -1005);
        runs(x, "light  ", -1007);
        runs(x, "light ;", -1006);
        runs(x, "light 05;", -1006);
        runs(x, "light 00;", -1006);
        runs(x, "light 10000;", -1006);
        runs(x, "light -1;", -1006);
        runs(x, "light 1 2;", -1008);
        runs(x, "light 1 light 2;", -1008);
        runs(x, "light 1,", -1007);
        runs(x, "light 1 ", -1008);
        runs(x, "light 1;;", -1008);
        runs(x, "light 1;x", -1008);
        runs(x, "light\t1;", -1005);
        runs(x, "light 1;\n", -1008);
        runs(x, "light 1;\u00e1", -1008);
        runs(x, "kind 1;", -1006);
        runs(x, "kind 1 ", -1007);
        runs(x, "swap 12;", -1007);
        runs(x, "light light;", -1006);
        due("14: count(0)", x.count(0), 0);
        due("14: count(11)", x.count(11), 0);
        runs(x, "light 0;", 1);
    }

    private static void textsWithRemainders() {
        PhosphorHush x = new PhosphorHush();
        // What was typed before stands no more, wherever the new text ends.
        type(x, "sort 12; sort 1;");
        runs(x, "sor", -1000);
        runs(x, "sort 12; sort 1;", -1000);
        runs(x, "sort", -1004);
        runs(x, "sort 1", -1006);
        runs(x, "sort 3;", 1);
        runs(x, "light 12;", 1);
        runs(x, "light 1", -1007);
        runs(x, "light 1;", 1);
        order("14", x, 12, 1);
    }

    private static void fullTexts() {
        PhosphorHush x = new PhosphorHush();
        runs(x, " ".repeat(140), 0);
        runs(x, " ".repeat(139) + "a", -1139);
        runs(x, " ".repeat(136) + "sort", -1140);
        runs(x, " ".repeat(135) + "dull9", -1140);
        runs(x, " ".repeat(134) + "dull9;", 1);
        runs(x, "sort 0" + " ".repeat(134), -1140);
        runs(x, "sort 0;" + " ".repeat(132) + ";", -1139);
        due("14: count(2)", x.count(2), 1);
    }

    private static void counting() {
        PhosphorHush x = lit(9, 18, 1, 63);
        due("15: count(-1)", x.count(-1), INVALID);
        due("15: count(19)", x.count(19), INVALID);
        due("15: count(HIGH)", x.count(HIGH), INVALID);
        due("15: count(LOW)", x.count(LOW), INVALID);
        // Ways 2, 2, 3 and 13; the ticks are 3, 6, 10 and 24.
        due("15: count(8)", x.count(8), 20);
        due("15: count(9)", x.count(9), 24);
        due("15: count(1)", x.count(1), 4);
        x.set(0, 24);
        due("15: count(1) in 24 ticks", x.count(1), 3);
        due("15: count(8) in 24 ticks", x.count(8), 20);
        due("15: count(9) in 24 ticks", x.count(9), 10);
        due("15: count(0) in 24 ticks", x.count(0), 4);
        x.set(0, 25);
        due("15: count(1) in 25 ticks", x.count(1), 4);
        x.set(1, 4);
        // At the pace 4 the ticks are 9, 18, 31 and 84.
        due("15: count(1) at the pace 4", x.count(1), 2);
        due("15: count(9) at the pace 4", x.count(9), 18);
        x.set(1, 1);
        x.set(0, 20);
        x.set(2, 15);
        x.draw(0, 9, 1);
        x.draw(0, 40, 1);
        x.draw(1, 9, 1);
        x.set(3, 3);
        x.set(5, 70);
        // Fast ones have 300 in 20 ticks: 15. From the tick 3 on, 9 has 100, 80, 60 and 40.
        due("15: count(4)", x.count(4), 3);
        due("15: count(6)", x.count(6), 3);
        due("15: count(5)", x.count(5), 1);
        due("15: count(7)", x.count(7), 0);
        x.set(5, 71);
        due("15: count(5) with 71", x.count(5), 0);
        due("15: count(7) with 71", x.count(7), 1);
        x.set(2, 16);
        due("15: count(4) with 16", x.count(4), 0);
        due("15: count(6) with 16", x.count(6), 2);
        x.set(0, 8);
        x.darken(9);
        x.darken(18);
        x.darken(1);
        due("15: count(9) of none lit", x.count(9), NONE);
        due("15: count(1) of none lit", x.count(1), 0);
        due("15: count(8) of one", x.count(8), 14);
    }

    private static void lookingAtSpots() {
        PhosphorHush x = lit(0, 3, 63);
        due("16: spot(-1, 0)", x.spot(-1, 0), INVALID);
        due("16: spot(64, 0)", x.spot(64, 0), INVALID);
        due("16: spot(0, -1)", x.spot(0, -1), INVALID);
        due("16: spot(0, 10)", x.spot(0, 10), INVALID);
        due("16: spot(3, 3)", x.spot(3, 3), 1);
        due("16: spot(4, 3)", x.spot(4, 3), NONE);
        due("16: spot(0, 4)", x.spot(0, 4), 1);
        due("16: spot(3, 4)", x.spot(3, 4), 5);
        due("16: spot(63, 4)", x.spot(63, 4), 17);
        x.set(0, 17);
        due("16: spot(63, 4) in 17 ticks", x.spot(63, 4), NONE);
        due("16: spot(63, 3) in 17 ticks", x.spot(63, 3), 2);
        due("16: spot(63, 7) in 17 ticks", x.spot(63, 7), 0);
        due("16: spot(63, 9) in 17 ticks", x.spot(63, 9), 0);
        x.setPhosphor(3, 1);
        // A slow one in 17 ticks: 100 down to 36, 1156 in all; the mean is 68.
        due("16: spot(3, 7)", x.spot(3, 7), 68);
        due("16: spot(3, 9)", x.spot(3, 9), 64);
        due("16: spot(3, 5)", x.spot(3, 5), 1);
        due("16: spot(63, 5)", x.spot(63, 5), 0);
        x.set(3, 33);
        // The start 33 is the tick 16: 56, then ticks 0, 1 and 2 with 52, 48 and 44.
        due("16: spot(3, 8)", x.spot(3, 8), 50);
        due("16: spot(3, 6)", x.spot(3, 6), 0);
        x.set(5, 50);
        due("16: spot(3, 6) with 50", x.spot(3, 6), 1);
        x.set(4, 18);
        // 17 ticks and once more the first: 1156 and 56 by 18.
        due("16: spot(3, 8) of 18 ticks", x.spot(3, 8), 67);
        due("16: spot(0, 9)", x.spot(0, 9), 100);
        due("16: spot(0, 7)", x.spot(0, 7), 17);
        due("16: spot(0, 5)", x.spot(0, 5), 0);
        due("16: spot(9, 8)", x.spot(9, 8), 0);
    }

    private static void lookingAtPositions() {
        PhosphorHush x = new PhosphorHush();
        due("17: at(0) of none", x.at(0), NONE);
        due("17: at(-1)", x.at(-1), INVALID);
        due("17: at(LOW)", x.at(LOW), INVALID);
        x = lit(63, 0);
        due("17: at(0)", x.at(0), 63);
        due("17: at(1)", x.at(1), 0);
        due("17: at(2)", x.at(2), NONE);
        due("17: at(12)", x.at(12), NONE);
        due("17: at(HIGH)", x.at(HIGH), NONE);
    }

    private static void fadingOfEachPhosphor() {
        PhosphorHush x = lit(1);
        due("18: brightness(-1, 0)", x.brightness(-1, 0), INVALID);
        due("18: brightness(64, 0)", x.brightness(64, 0), INVALID);
        due("18: brightness(1, -1)", x.brightness(1, -1), INVALID);
        due("18: brightness(1, 60)", x.brightness(1, 60), INVALID);
        due("18: brightness(2, 5)", x.brightness(2, 5), 0);
        int[][] faded = {
            {100, 80, 60, 40, 20, 0, 0, 0, 0, 0, 0, 0},
            {100, 96, 92, 88, 84, 80, 76, 72, 68, 64, 60, 56},
            {100, 100, 100, 100, 100, 50, 50, 50, 50, 50, 25, 25},
            {100, 100, 100, 100, 100, 100, 100, 100, 0, 0, 0, 0}};
        for (int kind = 0; kind < 4; kind++) {
            x.setPhosphor(1, kind);
            for (int n = 0; n < 12; n++) {
                due("18: brightness of kind " + kind, x.brightness(1, 2 + n), faded[kind][n]);
            }
        }
        x.set(0, 12);
        x.setPhosphor(1, 1);
        // Lit at 2, and in the frame before at -10: at tick 0 this is 10 ticks ago.
        due("18: brightness(1, 0)", x.brightness(1, 0), 60);
        due("18: brightness(1, 1)", x.brightness(1, 1), 56);
        due("18: brightness(1, 2)", x.brightness(1, 2), 100);
        due("18: brightness(1, 11)", x.brightness(1, 11), 64);
        due("18: brightness(1, 12)", x.brightness(1, 12), INVALID);
        x.set(0, 27);
        due("18: brightness(1, 26)", x.brightness(1, 26), 4);
        due("18: brightness(1, 0)", x.brightness(1, 0), 0);
        due("18: brightness(1, 1)", x.brightness(1, 1), 0);
    }

    private static void halvingForLong() {
        PhosphorHush x = lit(0);
        x.setPhosphor(0, 2);
        x.set(0, 200);
        int[] halved = {100, 50, 25, 12, 6, 3, 1, 0};
        for (int n = 0; n < 199; n++) {
            int want = halved[Math.min(n / 5, 7)];
            due("18: brightness of the halving", x.brightness(0, n + 1), want);
        }
        due("18: brightness(0, 0)", x.brightness(0, 0), 0);
        due("18: brightness(0, 200)", x.brightness(0, 200), INVALID);
        // 5 times 197 by 200.
        due("18: spot(0, 7)", x.spot(0, 7), 4);
        due("18: spot(0, 9)", x.spot(0, 9), 100);
    }

    private static void firstWrongSpot() {
        PhosphorHush x = new PhosphorHush();
        due("19: firstWrong(0)", x.firstWrong(0), NONE);
        due("19: firstWrong(1)", x.firstWrong(1), NONE);
        due("19: firstWrong(-1)", x.firstWrong(-1), INVALID);
        due("19: firstWrong(2)", x.firstWrong(2), INVALID);
        x.draw(0, 63, 1);
        x.draw(1, 62, 1);
        due("19: firstWrong(0)", x.firstWrong(0), 63);
        due("19: firstWrong(1)", x.firstWrong(1), 62);
        x.draw(0, 0, 1);
        due("19: firstWrong(0)", x.firstWrong(0), 0);
        x.draw(0, 63, 0);
        x.draw(0, 0, 0);
        x.draw(1, 62, 0);
        x.light(5);
        x.set(0, 8);
        x.set(2, 37);
        // A fast one in 8 ticks has 300 by 8, which is 37.
        due("19: firstWrong(0) of a seen one", x.firstWrong(0), 5);
        due("19: firstWrong(1) of a dark one", x.firstWrong(1), NONE);
        x.set(3, 6);
        x.set(4, 2);
        due("19: firstWrong(1) of a seen one", x.firstWrong(1), 5);
        x.draw(0, 5, 1);
        x.draw(1, 5, 1);
        due("19: firstWrong(0) of a due one", x.firstWrong(0), NONE);
        due("19: firstWrong(1) of a due one", x.firstWrong(1), NONE);
    }

    private static void bestStarts() {
        PhosphorHush x = lit(1, 9, 63);
        due("20: bestStart(-1)", x.bestStart(-1), INVALID);
        due("20: bestStart(2)", x.bestStart(2), INVALID);
        x.draw(1, 9, 1);
        // 1 is lit at 2, 9 at 4: of four ticks from 2 on, 1 has the mean 70 and 9 has 45;
        // from 3 on, 45 and 60.
        due("20: bestStart(0)", x.bestStart(0), 3);
        due("20: bestStart(1)", x.bestStart(1), 0);
        x.draw(1, 40, 1);
        due("20: bestStart(1) with an unlit one", x.bestStart(1), 1);
        x.set(3, 50);
        due("20: bestStart(0) from another start", x.bestStart(0), 3);
        due("20: count(16)", x.count(16), 50);
        x.draw(1, 9, 0);
        x.draw(1, 40, 0);
        x.draw(1, 1, 1);
        x.set(5, 100);
        due("20: bestStart(0) with 100", x.bestStart(0), 0);
        due("20: bestStart(1) with 100", x.bestStart(1), 1);
        x.set(4, 1);
        due("20: bestStart(0) of one tick", x.bestStart(0), 2);
        due("20: bestStart(1) of one tick", x.bestStart(1), 0);
        x.set(0, 8);
        x.darken(1);
        x.light(1);
        x.darken(63);
        // 9 is lit at 3, 1 at 5. 50 ticks are six frames with 300 each and two ticks, which
        // need 100 for the mean 38: 1 has them from the starts 4 to 7, 9 from 2 to 5.
        x.set(4, 50);
        x.set(5, 38);
        due("20: at(1)", x.at(1), 1);
        due("20: bestStart(0) round and round", x.bestStart(0), 6);
        due("20: bestStart(1) round and round", x.bestStart(1), 0);
    }

    private static void leastTravels() {
        PhosphorHush x = new PhosphorHush();
        due("21: leastTravel(-2)", x.leastTravel(-2), INVALID);
        due("21: leastTravel(LOW)", x.leastTravel(LOW), INVALID);
        due("21: leastTravel(-1) of none", x.leastTravel(-1), 0);
        due("21: leastTravel(0) of none", x.leastTravel(0), NONE);
        x.light(63);
        due("21: leastTravel(-1) of one", x.leastTravel(-1), 14);
        due("21: leastTravel(0) of one", x.leastTravel(0), 63);
        due("21: leastTravel(1) of one", x.leastTravel(1), NONE);
        due("21: leastTravel(HIGH)", x.leastTravel(HIGH), NONE);
        x.light(7);
        x.light(56);
        // By 7 and 63 to 56 it is as far as by 56 and 63 to 7.
        due("21: leastTravel(-1)", x.leastTravel(-1), 21);
        due("21: leastTravel(0)", x.leastTravel(0), 7);
        due("21: leastTravel(1)", x.leastTravel(1), 63);
        due("21: leastTravel(2)", x.leastTravel(2), 56);
        due("21: leastTravel(3)", x.leastTravel(3), NONE);
        order("21 untouched", x, 63, 7, 56);
        due("21: undo()", x.undo(), 2);
        due("21: leastTravel(-1) undone", x.leastTravel(-1), 14);
        due("21: leastTravel(0) undone", x.leastTravel(0), 7);
        due("21: leastTravel(1) undone", x.leastTravel(1), 63);
        due("21: leastTravel(2) undone", x.leastTravel(2), NONE);
    }

    private static void leastTravelOfTwelve() {
        PhosphorHush x = lit(3, 11, 2, 10, 1, 9, 0, 8, 16, 17, 18, 19);
        // A block of four by three, from a corner on: along its snake every way is 1.
        due("21: leastTravel(-1) of a block", x.leastTravel(-1), 11);
        int[] snake = {0, 1, 2, 3, 11, 10, 9, 8, 16, 17, 18, 19};
        for (int i = 0; i < 12; i++) {
            due("21: leastTravel(" + i + ") of a block", x.leastTravel(i), snake[i]);
        }
        due("21: leastTravel(12) of a block", x.leastTravel(12), NONE);
        due("21: count(11)", x.count(11), 5);
        x.darken(0);
        // Without the corner the beam still takes the way to 1 or 8 first.
        due("21: leastTravel(-1) without it", x.leastTravel(-1), 11);
        due("21: leastTravel(0) without it", x.leastTravel(0), 1);
        due("21: leastTravel(11) without it", x.leastTravel(11), NONE);
    }

    private static void longestLengths() {
        PhosphorHush x = new PhosphorHush();
        due("22: longest() of none", x.longest(), 50);
        x.light(0);
        x.draw(1, 0, 1);
        x.set(3, 1);
        // From its own tick on the means are 100, 90, 80, 70, 60 and 50.
        due("22: longest()", x.longest(), 5);
        x.set(5, 50);
        due("22: longest() with 50", x.longest(), 6);
        x.set(3, 0);
        // From the tick before it the means are 0, 50, 60, 60, 56, 50 and 42.
        due("22: longest() from the tick before", x.longest(), 6);
        x.set(5, 61);
        due("22: longest() with 61", x.longest(), NONE);
        x.set(3, 61);
        due("22: longest() from 61 on", x.longest(), 4);
        due("22: count(17)", x.count(17), 4);
        x.draw(1, 0, 0);
        // Now it must not be seen: five ticks and more have 60 and less.
        due("22: longest() of a dull one", x.longest(), 50);
        x.set(5, 1);
        due("22: longest() with 1", x.longest(), NONE);
        x.draw(1, 0, 1);
        due("22: longest() of all ticks", x.longest(), 50);
        x.draw(1, 1, 1);
        due("22: longest() with an unlit one", x.longest(), NONE);
    }

    private static void ticksOfPhosphors() {
        PhosphorHush x = new PhosphorHush();
        int[][] cases = {
            {0, 1, 5}, {0, 20, 5}, {0, 21, 4}, {0, 80, 2}, {0, 81, 1}, {0, 100, 1},
            {1, 1, 25}, {1, 4, 25}, {1, 5, 24}, {1, 50, 13}, {1, 96, 2}, {1, 100, 1},
            {2, 1, 35}, {2, 2, 30}, {2, 3, 30}, {2, 4, 25}, {2, 12, 20}, {2, 13, 15}, {2, 50, 10},
            {2, 51, 5}, {2, 100, 5}, {3, 1, 8}, {3, 100, 8},
            {-1, 1, INVALID}, {4, 1, INVALID}, {0, 0, INVALID}, {0, 101, INVALID},
            {LOW, 1, INVALID}, {HIGH, 1, INVALID}, {1, LOW, INVALID}, {1, HIGH, INVALID}};
        for (int[] c : cases) {
            due("23: ticks(" + c[0] + ", " + c[1] + ")", x.ticks(c[0], c[1]), c[2]);
        }
    }

    private static void shortestPeriods() {
        PhosphorHush x = new PhosphorHush();
        due("24: shortestPeriod() of none", x.shortestPeriod(), 8);
        x.light(6);
        due("24: shortestPeriod() of 6", x.shortestPeriod(), 8);
        x.light(7);
        // 6 is lit at 7, 7 at 9.
        due("24: shortestPeriod() of 6 and 7", x.shortestPeriod(), 10);
        x.set(1, 4);
        // 25 and 30.
        due("24: shortestPeriod() at the pace 4", x.shortestPeriod(), 31);
        x.set(0, 8);
        due("24: shortestPeriod() in 8 ticks", x.shortestPeriod(), 31);
        due("24: count(13)", x.count(13), 8);
        x = lit(63, 0, 62);
        x.set(1, 4);
        // Ways 14, 14 and 13: 41 times 4 and 3 is 167.
        due("24: shortestPeriod() of three", x.shortestPeriod(), 168);
        x.light(54);
        // A way of 1: 5 ticks more.
        due("24: shortestPeriod() of four", x.shortestPeriod(), 173);
        x.light(18);
        // A way of 8: 33 ticks more, to 205.
        due("24: shortestPeriod() of five", x.shortestPeriod(), NONE);
        x.darken(18);
        x.light(35);
        x.light(43);
        // Ways of 5 and 1: 21 and 5 ticks more, to 198.
        due("24: shortestPeriod() of six", x.shortestPeriod(), 199);
        x.set(1, 1);
        // The ways are 48 in all, with 6 ticks.
        due("24: shortestPeriod() at the pace 1", x.shortestPeriod(), 55);
        // Ways of 49 in all and 4 ticks: the last one would be lit at 200, too late for any period.
        x = lit(63, 0, 7, 56);
        x.set(1, 4);
        due("24: shortestPeriod() of 201", x.shortestPeriod(), NONE);
        // Ways of 48 in all and 7 ticks: the last one is lit at 199.
        x = lit(63, 0, 7, 6, 5, 4, 57);
        x.set(1, 4);
        due("24: shortestPeriod() of 200", x.shortestPeriod(), 200);
    }
}
