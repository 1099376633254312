/** Promises 7, 9 and 10 and every sentence that names a fault: where it is met, and the units used up to it. */
public final class FaultTest {
    private static final int OK = PageRenderer.OK, OPERANDS = PageRenderer.OPERANDS, TIME = PageRenderer.TIME;
    private static final int RANGE = PageRenderer.RANGE, NOPOINT = PageRenderer.NOPOINT;
    private static final int LONG = PageRenderer.LONG, NEST = PageRenderer.NEST;
    private static final String BIG = "50 0 0 50 0 0 cm ";
    private static final String[] NAMES = {
        "m", "l", "h", "re", "f", "F", "W", "V", "n", "q", "Q", "cm", "g", "Do", "S", "w", "Dg"
    };
    private static final int[] NEEDS = {2, 2, 0, 4, 0, 0, 0, 0, 0, 0, 0, 6, 1, 1, 0, 1, 2};
    private static final String[] PATH_ENDS = {"f", "F", "S", "W", "V", "n"};

    public static void main(String[] args) {
        operandsOfStreams();
        tooManyNumbers();
        operandsOfOperators();
        operandsAreGone();
        unitsAfterOperands();
        noUnitLeft();
        pointsOutside();
        pointsBeforeOtherTests();
        partsWithoutLimit();
        edgesWithoutPoint();
        edgesBeyondTwentyFour();
        closingEdges();
        rectangles();
        pathsAreEmptyAfter();
        saves();
        restores();
        pathsAreKept();
        matrices();
        matricesMultiplied();
        colours();
        widths();
        streamsOutside();
        streamsBeingExecuted();
        streamsOverSixStates();
        pathsAroundStreams();
        statesLeftSaved();
        groupShares();
        groupsAsStreams();
        firstFaultEnds();
        placesOfFaults();
        placesWithoutFault();
        unitsUsed();
        Check.finish("FaultTest");
    }

    private static void operandsOfStreams() {
        Check.sentence("STATE: a list of operands, empty at the beginning of every stream");
        Check.outcome(OPERANDS, 64, 1, "1 Do", "g");
        Check.outcome(OK, -1, 1, "1 Do", "1 2 3 4 5 6");
        Check.outcome(OPERANDS, 64 + 6, 1, "1 Do", "1 2 3 4 5 6 7");
        Check.outcome(OPERANDS, 64, 1, "1 8 Dg", "g");
        Check.outcome(OK, -1, 2, "1 Do 1 Do", "");
        PageRenderer x = Check.document("1 2 3 4 5 6");
        for (int n = 0; n < 3; n++) {
            Check.due("a rendering begins with no operand", x.render(), OK);
        }
        x = Check.document("1 2 3 4 5 6 7");
        Check.put(x, 0, "n");
        Check.due("renderAt(1)", x.renderAt(1), OPERANDS);
        Check.due("a rendering begins with no operand after a fault", x.render(), OK);
        // A stream has its own list: what a drawn one leaves over is no operand of the one that drew it.
        Check.outcome(OPERANDS, 2, 1, "1 Do g", "7");
        Check.outcome(OK, -1, 2, "1 Do n", "7");
        Check.outcome(OK, -1, 2, "1 8 Dg n", "7");
        Check.outcome(OK, -1, 2, "1 Do 9 g", "1 2 3 4 5 6");
        Check.outcome(OK, -1, 1, "1 Do 1 2 3 4 5 6", "7");
        Check.outcome(OPERANDS, 8, 1, "1 Do 1 2 3 4 5 6 7", "7");
        Check.outcome(OPERANDS, 64 + 2, 3, "1 Do", "2 Do g", "n 1");
    }

    private static void tooManyNumbers() {
        Check.sentence("NUM appends an operand; OPERANDS if there are 6 already");
        Check.outcome(OK, -1, 0, "1 2 3 4 5 6");
        Check.outcome(OPERANDS, 6, 0, "1 2 3 4 5 6 7");
        Check.outcome(OPERANDS, 7, 1, "n 1 2 3 4 5 6 7");
        Check.outcome(OPERANDS, 13, 1, "1 0 0 1 0 0 cm 1 2 3 4 5 6 7 cm");
    }

    private static void operandsOfOperators() {
        Check.sentence("An operator needs exactly as many operands as it has: OPERANDS if there are more or fewer");
        for (int k = 0; k < NAMES.length; k++) {
            String before = before(NAMES[k]);
            int place = before.split(" ").length;
            Check.outcome(OK, -1, 2, before + Check.times(NEEDS[k], "1") + NAMES[k]);
            for (int n = 0; n <= 6; n++) {
                if (n != NEEDS[k]) {
                    Check.outcome(OPERANDS, place + n, 1, before + Check.times(n, "1") + NAMES[k]);
                }
            }
        }
    }

    private static String before(String name) {
        return name.equals("Q") ? "q " : "5 5 m ";
    }

    private static void operandsAreGone() {
        Check.sentence("Then the operands are gone");
        for (int k = 0; k < NAMES.length; k++) {
            String text = before(NAMES[k]) + Check.times(NEEDS[k], "1") + NAMES[k];
            int length = text.split(" ").length;
            Check.outcome(OK, -1, 3, text + " n");
            Check.outcome(OPERANDS, length, 2, text + " g");
            Check.outcome(OK, -1, 2, text + " 1 2 3 4 5 6");
        }
    }

    private static void unitsAfterOperands() {
        Check.sentence("An operator uses up one of 200 UNITS after this test");
        String most = Check.times(4, "1 Do") + "2 Do ";
        String forty = Check.times(40, "n");
        String rest = Check.times(35, "n");
        Check.outcome(OPERANDS, 2, 1, "n 1 n");
        Check.outcome(RANGE, 2, 2, "n 256 g");
        Check.outcome(NOPOINT, 0, 1, "h");
        Check.outcome(NEST, 0, 1, "Q");
        Check.outcome(OPERANDS, 11, 200, most + "1 n", forty, rest);
        Check.outcome(OPERANDS, 10, 200, most + "g", forty, rest);
        Check.outcome(OPERANDS, 16, 200, most + "1 2 3 4 5 6 7", forty, rest);
    }

    private static void noUnitLeft() {
        Check.sentence("TIME if there is none left");
        String most = Check.times(4, "1 Do") + "2 Do ";
        String forty = Check.times(40, "n");
        String rest = Check.times(35, "n");
        Check.outcome(OK, -1, 199, most, forty, Check.times(34, "n"));
        Check.outcome(OK, -1, 200, most, forty, rest);
        Check.outcome(OK, -1, 200, most + "1 2 3 4 5 6", forty, rest);
        Check.outcome(TIME, 10, 200, most + "n", forty, rest);
        Check.outcome(TIME, 2 * 64 + 35, 200, most, forty, rest + "n");
        Check.outcome(TIME, 64 + 35, 200, Check.times(5, "1 Do"), forty);
        // It comes before every test of the operator itself.
        Check.outcome(TIME, 11, 200, most + "256 g", forty, rest);
        Check.outcome(TIME, 10, 200, most + "Q", forty, rest);
        Check.outcome(TIME, 10, 200, most + "h", forty, rest);
        Check.outcome(TIME, 11, 200, most + "0 Do", forty, rest);
        Check.outcome(TIME, 12, 200, most + "1 17 Dg", forty, rest);
        Check.outcome(TIME, 12, 200, most + "1 1 l", forty, rest);
        PageRenderer x = Check.document(most + "n", forty, rest);
        for (int n = 0; n < 3; n++) {
            Check.due("each rendering has its own units", x.render(), TIME);
            Check.due("used", x.used(), 200);
        }
    }

    private static void pointsOutside() {
        Check.sentence("POINTS: RANGE if X or Y is below -4000 or above 4000");
        Check.outcome(OK, -1, 5, BIG + "80 80 m -80 -80 m 80 -80 l -80 80 l");
        String four = "4 0 0 4 ";
        String[] over = {
            "1 0 cm 0 0 m 1000 0 ", "-1 0 cm 0 0 m -1000 0 ", "0 1 cm 0 0 m 0 1000 ", "0 -1 cm 0 0 m 0 -1000 "
        };
        for (String operator : new String[] {"m", "l"}) {
            Check.outcome(OK, -1, 3, four + "0 0 cm 0 0 m 1000 -1000 " + operator);
            Check.outcome(OK, -1, 3, four + "0 0 cm 0 0 m -1000 1000 " + operator);
            for (String side : over) {
                Check.outcome(RANGE, 12, 3, four + side + operator);
            }
            Check.outcome(RANGE, 12, 3, "50 0 50 0 0 0 cm 0 0 m 1000 1000 " + operator);
            Check.outcome(OK, -1, 3, "50 50 -50 -50 0 0 cm 0 0 m 1000 1000 " + operator);
        }
    }

    private static void pointsBeforeOtherTests() {
        Check.sentence("POINTS: (before the other tests of m and l)");
        Check.outcome(RANGE, 9, 2, BIG + "81 0 l");
        Check.outcome(NOPOINT, 9, 2, BIG + "80 0 l");
        String full = BIG + "1 1 m " + Check.times(24, "h");
        Check.outcome(RANGE, 36, 27, full + "0 -81 l");
        Check.outcome(LONG, 36, 27, full + "0 -80 l");
        Check.outcome(RANGE, 36, 27, full + "0 81 m");
        Check.outcome(OK, -1, 27, full + "0 80 m");
    }

    private static void partsWithoutLimit() {
        Check.sentence("m: a new part begins at the point");
        Check.outcome(OK, -1, 13, Check.times(13, "1 1 m") + "1");
        Check.outcome(OK, -1, 30, "1 1 m " + Check.times(24, "h") + Check.times(4, "5 5 m") + "n");
        Check.outcome(LONG, 32, 27, "1 1 m " + Check.times(24, "h") + "5 5 m 6 6 l");
    }

    private static void edgesWithoutPoint() {
        Check.sentence("l: NOPOINT if the path is empty");
        Check.outcome(NOPOINT, 2, 1, "1 1 l");
        Check.outcome(NOPOINT, 6, 3, "1 1 m n 1 1 l");
        Check.outcome(OK, -1, 2, "1 1 m 1 1 l");
        Check.outcome(OK, -1, 2, "1 1 1 1 re 1 1 l");
    }

    private static void edgesBeyondTwentyFour() {
        Check.sentence("l: then LONG if it has 24 edges");
        String part = "1 1 m ";
        Check.outcome(OK, -1, 25, part + Check.times(23, "h") + "5 5 l");
        Check.outcome(LONG, 29, 26, part + Check.times(24, "h") + "5 5 l");
        Check.outcome(OK, -1, 14, part + Check.times(12, "2 2 l") + "n");
        // The edges of all parts count, and an emptied path has none.
        Check.outcome(LONG, 32, 27, part + Check.times(12, "h") + "5 5 m " + Check.times(12, "h") + "6 6 l");
        Check.outcome(OK, -1, 28, part + Check.times(24, "h") + "n 5 5 m 6 6 l");
    }

    private static void closingEdges() {
        Check.sentence("h: NOPOINT and LONG as l");
        Check.outcome(NOPOINT, 0, 1, "h");
        Check.outcome(OK, -1, 2, "1 1 m h");
        Check.outcome(OK, -1, 25, "1 1 m " + Check.times(24, "h"));
        Check.outcome(LONG, 27, 26, "1 1 m " + Check.times(25, "h"));
        Check.outcome(LONG, 30, 27, "1 1 m " + Check.times(24, "h") + "2 2 m h");
        // The beginning was looked at when the part began; a later matrix is no matter for it.
        Check.outcome(OK, -1, 4, "1000 1000 m " + BIG + "0 0 l h");
    }

    private static void rectangles() {
        Check.sentence("re: as m x y, l x+w y, l x+w y+h, l x y+h, h in this order (their tests too)");
        String part = "0 0 m ";
        Check.outcome(OK, -1, 1, "1000 1000 1000 1000 re");
        Check.outcome(OK, -1, 1, "-1000 -1000 -1000 -1000 re");
        Check.outcome(OK, -1, 1, "0 0 0 0 re");
        Check.outcome(OK, -1, 2, BIG + "80 -80 -160 160 re");
        Check.outcome(RANGE, 11, 2, BIG + "81 0 -1 0 re");
        Check.outcome(RANGE, 11, 2, BIG + "0 -81 0 1 re");
        Check.outcome(RANGE, 11, 2, BIG + "80 0 1 0 re");
        Check.outcome(RANGE, 11, 2, BIG + "-80 0 -1 0 re");
        Check.outcome(RANGE, 11, 2, BIG + "0 80 0 1 re");
        Check.outcome(RANGE, 11, 2, BIG + "0 -80 0 -1 re");
        // Here X = 40 (x - y): the second, the third or the fourth corner alone lies outside.
        String slanted = "40 0 -40 0 0 0 cm ";
        Check.outcome(OK, -1, 2, slanted + "0 0 100 100 re");
        Check.outcome(RANGE, 11, 2, slanted + "0 0 101 100 re");
        Check.outcome(RANGE, 11, 2, slanted + "0 0 -101 -100 re");
        Check.outcome(RANGE, 11, 2, slanted + "0 0 51 -50 re");
        Check.outcome(OK, -1, 2, slanted + "0 0 50 -50 re");
        Check.outcome(RANGE, 11, 2, slanted + "0 0 100 101 re");
        Check.outcome(OK, -1, 22, part + Check.times(20, "h") + "1 1 2 2 re");
        Check.outcome(LONG, 28, 23, part + Check.times(21, "h") + "1 1 2 2 re");
        Check.outcome(LONG, 28, 23, part + Check.times(21, "h") + "1 1 0 0 re");
        // At 24, 23, 22, 21 and 20 edges: which of LONG and RANGE is met first tells the order.
        Check.outcome(RANGE, 38, 27, BIG + part + Check.times(24, "h") + "81 0 0 0 re");
        Check.outcome(RANGE, 38, 27, BIG + part + Check.times(24, "h") + "80 0 1 0 re");
        Check.outcome(LONG, 38, 27, BIG + part + Check.times(24, "h") + "0 80 0 1 re");
        Check.outcome(RANGE, 37, 26, BIG + part + Check.times(23, "h") + "0 80 0 1 re");
        Check.outcome(LONG, 37, 26, BIG + part + Check.times(23, "h") + "0 79 0 1 re");
        Check.outcome(LONG, 37, 26, slanted + part + Check.times(23, "h") + "0 0 100 101 re");
        Check.outcome(RANGE, 36, 25, slanted + part + Check.times(22, "h") + "0 0 100 101 re");
        Check.outcome(LONG, 36, 25, slanted + part + Check.times(22, "h") + "0 0 100 100 re");
        Check.outcome(LONG, 35, 24, slanted + part + Check.times(21, "h") + "0 0 100 100 re");
        Check.outcome(OK, -1, 23, slanted + part + Check.times(20, "h") + "0 0 100 100 re");
    }

    private static void pathsAreEmptyAfter() {
        Check.sentence("After each of these six the path is empty");
        for (String operator : PATH_ENDS) {
            Check.outcome(OK, -1, 1, operator);
            Check.outcome(NOPOINT, 4, 3, "1 1 m " + operator + " h");
            Check.outcome(NOPOINT, 6, 3, "1 1 m " + operator + " 2 2 l");
            Check.outcome(NOPOINT, 6, 3, "1 1 1 1 re " + operator + " h");
            Check.outcome(OK, -1, 28, "1 1 m " + Check.times(24, "h") + operator + " 1 1 m h");
        }
    }

    private static void saves() {
        Check.sentence("q: saves the state; NEST if 6 are saved");
        Check.outcome(OK, -1, 6, Check.times(6, "q"));
        Check.outcome(NEST, 6, 7, Check.times(7, "q"));
        Check.outcome(OK, -1, 14, Check.times(6, "q") + "Q q " + Check.times(6, "Q"));
        Check.outcome(NEST, 8, 9, Check.times(6, "q") + "Q q q");
        // A stream that is drawn has a saved state as well.
        Check.outcome(OK, -1, 7, "q q q q 1 Do", "q n");
        Check.outcome(NEST, 65, 7, "q q q q 1 Do", "q q q");
        Check.outcome(NEST, 64, 7, "q q q q q 1 Do", "q");
        Check.outcome(NEST, 5 * 64 + 1, 7, "1 Do", "2 Do", "3 Do", "4 Do", "5 Do", "q q");
        Check.outcome(NEST, 5 * 64 + 1, 7, "1 1 Dg", "2 2 Dg", "3 3 Dg", "4 4 Dg", "5 5 Dg", "q q");
    }

    private static void restores() {
        Check.sentence("Q: NEST if none was saved by a q of this execution of this stream that is not restored yet");
        Check.outcome(NEST, 0, 1, "Q");
        Check.outcome(OK, -1, 2, "q Q");
        Check.outcome(NEST, 2, 3, "q Q Q");
        Check.outcome(NEST, 64, 3, "q 1 Do", "Q");
        Check.outcome(NEST, 64, 3, "q 1 8 Dg", "Q");
        Check.outcome(NEST, 66, 5, "q 1 Do", "q Q Q");
        Check.outcome(NEST, 2, 3, "1 Do Q", "q");
        Check.outcome(NEST, 3, 3, "1 8 Dg Q", "q");
        Check.outcome(NEST, 65 + 1, 5, "1 Do", "2 Do Q", "q q");
        Check.outcome(OK, -1, 5, "q 1 Do Q", "q q");
        Check.outcome(NEST, 4, 6, "q 1 Do Q Q", "q q");
        Check.outcome(NEST, 68, 6, "1 Do", "q Q q Q Q");
        // Neither another stream nor another execution has left a state for this one.
        Check.outcome(NEST, 2 * 64, 4, "1 Do 2 Do", "q", "Q");
        Check.outcome(OK, -1, 8, "1 Do 1 Do", "q q Q");
    }

    private static void pathsAreKept() {
        Check.sentence("Q: The path is not touched");
        Check.outcome(OK, -1, 4, "q 1 1 m Q h");
        Check.outcome(OK, -1, 4, "1 1 m q Q h");
        Check.outcome(LONG, 29, 28, "1 1 m q " + Check.times(24, "h") + "Q h");
    }

    private static void matrices() {
        Check.sentence("cm: RANGE if one of the first four is outside -50..50 or of the last two outside -4000..4000");
        for (int at = 0; at < 6; at++) {
            for (int sign = -1; sign <= 1; sign += 2) {
                String most = at < 4 ? matrix(at, sign * 50) : matrix(at, sign * 1000).repeat(4);
                int calls = at < 4 ? 1 : 4;
                Check.outcome(OK, -1, calls, most);
                String over = at < 4 ? matrix(at, sign * 51) : most + matrix(at, sign);
                calls = at < 4 ? 1 : 5;
                Check.outcome(RANGE, 7 * calls - 1, calls, over);
            }
        }
    }

    private static String matrix(int at, int value) {
        int[] numbers = {1, 0, 0, 1, 0, 0};
        numbers[at] = value;
        StringBuilder text = new StringBuilder();
        for (int number : numbers) {
            text.append(number).append(' ');
        }
        return text + "cm ";
    }

    private static void matricesMultiplied() {
        Check.sentence("cm: the new matrix (its limits hold for the product, not for the operands)");
        Check.outcome(OK, -1, 2, "10 0 0 1 0 0 cm 5 0 0 1 0 0 cm");
        Check.outcome(RANGE, 13, 2, "10 0 0 1 0 0 cm 6 0 0 1 0 0 cm");
        Check.outcome(RANGE, 13, 2, "1 0 0 10 0 0 cm 1 0 0 -6 0 0 cm");
        Check.outcome(RANGE, 13, 2, BIG + "1 1 0 2 0 0 cm");
        Check.outcome(RANGE, 13, 2, BIG + "1 0 0 1 81 0 cm");
        Check.outcome(RANGE, 13, 2, BIG + "1 0 0 1 0 -81 cm");
        Check.outcome(OK, -1, 2, BIG + "1 0 0 1 80 80 cm");
        Check.outcome(OK, -1, 2, BIG + "0 0 0 0 80 80 cm");
        // A matrix of zeros makes the greatest operands small again.
        Check.outcome(OK, -1, 2, "0 0 0 0 0 0 cm 1000 -1000 1000 -1000 1000 -1000 cm");
        Check.outcome(OK, -1, 2, "1 1 1 1 0 0 cm 1000 -1000 1000 -1000 1000 -1000 cm");
    }

    private static void colours() {
        Check.sentence("g: RANGE if c is outside 0..255");
        Check.outcome(OK, -1, 2, "0 g 255 g");
        Check.outcome(RANGE, 1, 1, "-1 g");
        Check.outcome(RANGE, 1, 1, "256 g");
        Check.outcome(RANGE, 1, 1, "1000 g");
        Check.outcome(RANGE, 1, 1, "-1000 g");
    }

    private static void widths() {
        Check.sentence("w: RANGE if n is outside 0..60");
        Check.outcome(OK, -1, 2, "0 w 60 w");
        Check.outcome(RANGE, 1, 1, "-1 w");
        Check.outcome(RANGE, 1, 1, "61 w");
        Check.outcome(RANGE, 1, 1, "1000 w");
        Check.outcome(RANGE, 1, 1, "-1000 w");
    }

    private static void streamsOutside() {
        Check.sentence("Do: RANGE if s is outside 0..5");
        Check.outcome(OK, -1, 5, "1 Do 2 Do 3 Do 4 Do 5 Do");
        Check.outcome(RANGE, 1, 1, "-1 Do");
        Check.outcome(RANGE, 1, 1, "6 Do");
        Check.outcome(RANGE, 1, 1, "1000 Do");
        Check.outcome(RANGE, 1, 1, "-1000 Do");
        Check.outcome(RANGE, 7, 7, Check.times(6, "q") + "6 Do");
    }

    private static void streamsBeingExecuted() {
        Check.sentence("Do: NEST if stream s is being executed");
        Check.outcome(NEST, 1, 1, "0 Do");
        Check.outcome(NEST, 65, 2, "1 Do", "1 Do");
        Check.outcome(NEST, 65, 2, "1 Do", "0 Do");
        Check.outcome(NEST, 2 * 64 + 1, 3, "1 Do", "2 Do", "1 Do");
        Check.outcome(NEST, 5 * 64 + 1, 6, "1 Do", "2 Do", "3 Do", "4 Do", "5 Do", "0 Do");
        // When it has ended, it may be drawn again, by any other one.
        Check.outcome(OK, -1, 4, "1 Do 2 Do 1 Do", "", "1 Do");
        Check.outcome(OK, -1, 3, "1 8 Dg 2 Do", "", "1 8 Dg");
    }

    private static void streamsOverSixStates() {
        Check.sentence("Do: NEST if 6 states are saved");
        Check.outcome(OK, -1, 6, Check.times(5, "q") + "1 Do", "");
        Check.outcome(NEST, 7, 7, Check.times(6, "q") + "1 Do", "");
        Check.outcome(OK, -1, 8, Check.times(6, "q") + "Q 1 Do", "");
        Check.outcome(OK, -1, 5, "1 Do", "2 Do", "3 Do", "4 Do", "5 Do", "");
        Check.outcome(NEST, 4 * 64 + 3, 7, "1 Do", "2 Do", "3 Do", "4 Do", "q q 5 Do", "");
        Check.outcome(OK, -1, 6, "1 Do", "2 Do", "3 Do", "4 Do", "q 5 Do", "");
    }

    private static void pathsAroundStreams() {
        Check.sentence("Do: the path becomes empty, .., stream s is executed, ..; the path is empty again");
        Check.outcome(NOPOINT, 64, 3, "1 1 m 1 Do", "h");
        Check.outcome(NOPOINT, 64 + 2, 3, "1 1 m 1 8 Dg", "1 1 l");
        Check.outcome(NOPOINT, 5, 3, "1 1 m 1 Do h", "");
        Check.outcome(NOPOINT, 2, 3, "1 Do h", "1 1 m");
        Check.outcome(NOPOINT, 3, 3, "1 9 Dg h", "1 1 m");
        Check.outcome(NOPOINT, 4, 3, "1 Do 1 1 l", "1 1 m");
    }

    private static void statesLeftSaved() {
        Check.sentence("Do: states are restored up to and with this one (a stream need not have restored what it saved)");
        Check.outcome(OK, -1, 18, "q q q 1 Do 1 Do q q q Q Q Q Q Q Q", "q q");
        Check.outcome(NEST, 10, 13, "q q q 1 Do 1 Do q q q q", "q q");
        Check.outcome(OK, -1, 9, "1 Do q q", "q q 2 Do q", "q q");
        Check.outcome(OK, -1, 12, "1 8 Dg q q q q q q", "q q q q q");
    }

    private static void groupShares() {
        Check.sentence("Dg: RANGE if a is outside 0..16");
        Check.outcome(OK, -1, 2, "1 0 Dg 1 16 Dg");
        Check.outcome(RANGE, 2, 1, "1 -1 Dg");
        Check.outcome(RANGE, 2, 1, "1 17 Dg");
        Check.outcome(RANGE, 2, 1, "1 1000 Dg");
        Check.outcome(RANGE, 2, 1, "1 -1000 Dg");
        Check.outcome(RANGE, 2, 1, "0 17 Dg");
        Check.outcome(RANGE, 8, 7, Check.times(6, "q") + "1 17 Dg");
    }

    private static void groupsAsStreams() {
        Check.sentence("Dg: else as Do");
        Check.outcome(RANGE, 2, 1, "-1 8 Dg");
        Check.outcome(RANGE, 2, 1, "6 8 Dg");
        Check.outcome(OK, -1, 5, "1 8 Dg 2 8 Dg 3 8 Dg 4 8 Dg 5 8 Dg");
        Check.outcome(RANGE, 8, 7, Check.times(6, "q") + "6 8 Dg");
        Check.outcome(NEST, 2, 1, "0 16 Dg");
        Check.outcome(NEST, 66, 2, "1 8 Dg", "1 8 Dg");
        Check.outcome(NEST, 66, 2, "1 Do", "0 8 Dg");
        Check.outcome(NEST, 8, 7, Check.times(6, "q") + "1 8 Dg");
        Check.outcome(OK, -1, 6, Check.times(5, "q") + "1 8 Dg");
        Check.outcome(OK, -1, 5, "1 1 Dg", "2 2 Dg", "3 3 Dg", "4 4 Dg", "5 5 Dg", "");
        Check.outcome(OK, -1, 4, "1 8 Dg n", "q q");
    }

    private static void firstFaultEnds() {
        Check.sentence("7: the first of the named faults that is met, which ends the rendering; what was painted before stays");
        PageRenderer x = Check.outcome(NEST, 6, 3, "0 0 4 4 re f Q 4 0 4 4 re f 256 g");
        Check.due("row(0)", x.row(0), 1);
        Check.due("by before", x.by(0, 0), 5);
        Check.due("by after", x.by(1, 0), -1);
        x = Check.outcome(RANGE, 64 + 7, 4, "1 Do 4 0 4 4 re f", "0 0 4 4 re f 256 g");
        Check.due("row(0): the drawing streams end too", x.row(0), 1);
        Check.due("renderAt(0)", x.renderAt(0), OK);
        Check.due("all pixels are 0 again", x.count(0), 192);
        Check.due("no painter again", x.by(0, 0), -1);
    }

    private static void placesOfFaults() {
        Check.sentence("9: 64 * stream + the number of its token (0 the first) at which the fault was met");
        Check.outcome(NEST, 0, 1, "Q");
        Check.outcome(NEST, 39, 40, Check.times(39, "n") + "Q");
        Check.outcome(NEST, 5 * 64, 2, "5 Do", "", "", "", "", "Q");
        Check.outcome(NEST, 5 * 64 + 39, 41, "5 Do", "", "", "", "", Check.times(39, "n") + "Q");
        Check.outcome(NEST, 3 * 64 + 1, 4, "1 Do", "3 Do", "", "n Q");
        Check.outcome(OPERANDS, 6, 0, "1 2 3 4 5 6 7 8 g");
    }

    private static void placesWithoutFault() {
        Check.sentence("9: -1 after OK or if there was none");
        Check.due("faultAt of a new object", new PageRenderer().faultAt(), -1);
        PageRenderer x = Check.document("n");
        Check.due("faultAt before the first rendering", x.faultAt(), -1);
        Check.put(x, 0, "n Q");
        Check.due("render", x.render(), NEST);
        Check.due("faultAt", x.faultAt(), 1);
        Check.due("renderAt(1)", x.renderAt(1), OK);
        Check.due("faultAt after OK", x.faultAt(), -1);
        Check.due("renderAt(2)", x.renderAt(2), NEST);
        Check.due("renderAt(3)", x.renderAt(3), -1);
        Check.due("faultAt after no rendering", x.faultAt(), 1);
        Check.due("renderAt(0)", x.renderAt(0), OK);
        Check.due("faultAt after an empty stream", x.faultAt(), -1);
    }

    private static void unitsUsed() {
        Check.sentence("10: The UNITS that the same rendering used up; 0 if there was none");
        Check.due("used of a new object", new PageRenderer().used(), 0);
        Check.outcome(OK, -1, 0, "");
        Check.outcome(OK, -1, 0, "1 2 3 4 5 6");
        Check.outcome(OK, -1, 1, "1 1 1 1 re");
        Check.outcome(OK, -1, 40, Check.times(40, "n"));
        Check.outcome(OK, -1, 9, "1 Do n 1 Do", "n n n");
        PageRenderer x = Check.document("n n");
        Check.due("used before the first rendering", x.used(), 0);
        Check.put(x, 0, "n n n");
        Check.due("render", x.render(), OK);
        Check.due("renderAt(1)", x.renderAt(1), OK);
        Check.due("used of the latest", x.used(), 2);
        Check.due("renderAt(3)", x.renderAt(3), -1);
        Check.due("used after no rendering", x.used(), 2);
        Check.due("revert", x.revert(), 0);
        Check.due("used after revert", x.used(), 2);
    }
}
