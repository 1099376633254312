/** Promises 7, 9 and 10: every named fault, where it is met, and the units used up to it. */
public final class FaultTest {
    private static final int OK = PageRenderer.OK, OPERANDS = PageRenderer.OPERANDS, TIME = PageRenderer.TIME;
    private static final int RANGE = PageRenderer.RANGE, NOPOINT = PageRenderer.NOPOINT;
    private static final int LONG = PageRenderer.LONG, NEST = PageRenderer.NEST;
    private static final String BIG = "50 0 0 50 0 0 cm ";

    public static void main(String[] args) {
        operands();
        operandsBetweenStreams();
        units();
        points();
        emptyPaths();
        longPaths();
        rectangles();
        saves();
        matrices();
        numbers();
        draws();
        groups();
        firstFaultEnds();
        Check.finish("FaultTest");
    }

    private static void operands() {
        Check.outcome(OK, -1, 0, "");
        Check.outcome(OK, -1, 0, "1 2 3 4 5 6");
        Check.outcome(OPERANDS, 6, 0, "1 2 3 4 5 6 7");
        Check.outcome(OPERANDS, 7, 1, "n 1 2 3 4 5 6 7");
        String[] names = {
            "m", "l", "h", "re", "f", "F", "W", "V", "n", "q", "Q", "cm", "g", "Do", "S", "w", "Dg"
        };
        int[] needs = {2, 2, 0, 4, 0, 0, 0, 0, 0, 0, 0, 6, 1, 1, 0, 1, 2};
        for (int k = 0; k < names.length; k++) {
            String before = names[k].equals("Q") ? "q " : "5 5 m ";
            int place = names[k].equals("Q") ? 1 : 3;
            Check.outcome(OK, -1, 2, before + Check.times(needs[k], "1") + names[k]);
            for (int n = 0; n <= 6; n++) {
                if (n != needs[k]) {
                    Check.outcome(OPERANDS, place + n, 1, before + Check.times(n, "1") + names[k]);
                }
            }
        }
        Check.outcome(OPERANDS, 3, 1, "1 g 1 n");
        Check.outcome(OK, -1, 2, "1 g 1 g");
    }

    private static void operandsBetweenStreams() {
        Check.outcome(OPERANDS, 64, 1, "1 Do", "g");
        Check.outcome(OK, -1, 2, "1 Do g", "7");
        Check.outcome(OPERANDS, 2, 1, "1 Do n", "7");
        Check.outcome(OK, -1, 1, "1 Do 1 2 3 4 5 6", "");
        Check.outcome(OPERANDS, 7, 1, "1 Do 1 2 3 4 5 6", "7");
        Check.outcome(OPERANDS, 64 + 2, 3, "1 Do", "2 Do g", "n 1 2");
        PageRenderer x = Check.document("1 2 3 4 5 6");
        Check.due("render", x.render(), OK);
        Check.due("a rendering begins with no operand", x.render(), OK);
    }

    private static void units() {
        String forty = Check.times(40, "n");
        String most = Check.times(4, "1 Do");
        Check.outcome(OK, -1, 200, most + "2 Do", forty, Check.times(35, "n"));
        Check.outcome(OK, -1, 200, most + "2 Do 1", forty, Check.times(35, "n"));
        Check.outcome(TIME, 10, 200, most + "2 Do n", forty, Check.times(35, "n"));
        Check.outcome(TIME, 99, 200, Check.times(5, "1 Do"), forty);
        Check.outcome(OPERANDS, 11, 200, most + "2 Do 1 n", forty, Check.times(35, "n"));
        Check.outcome(TIME, 11, 200, most + "2 Do 256 g", forty, Check.times(35, "n"));
        Check.outcome(TIME, 10, 200, most + "2 Do Q", forty, Check.times(35, "n"));
        Check.outcome(RANGE, 1, 1, "256 g");
        PageRenderer x = Check.outcome(TIME, 99, 200, Check.times(5, "1 Do"), forty);
        Check.due("the units are there again", x.render(), TIME);
        Check.due("used", x.used(), 200);
    }

    private static void points() {
        Check.outcome(OK, -1, 5, BIG + "80 80 m -80 -80 m 80 -80 l -80 80 l");
        for (String operator : new String[] {"m", "l"}) {
            Check.outcome(RANGE, 12, 3, BIG + "0 0 m 81 0 " + operator);
            Check.outcome(RANGE, 12, 3, BIG + "0 0 m -81 0 " + operator);
            Check.outcome(RANGE, 12, 3, BIG + "0 0 m 0 81 " + operator);
            Check.outcome(RANGE, 12, 3, BIG + "0 0 m 0 -81 " + operator);
        }
        Check.outcome(OK, -1, 2, "4 0 0 1 0 0 cm 1000 1000 m");
        Check.outcome(RANGE, 9, 2, "4 0 0 1 1 0 cm 1000 1000 m");
        Check.outcome(RANGE, 9, 2, "4 0 0 1 -1 0 cm -1000 1000 m");
        Check.outcome(RANGE, 9, 2, "1 0 0 4 0 1 cm 1000 1000 m");
        Check.outcome(RANGE, 9, 2, BIG + "81 0 l");
        Check.outcome(NOPOINT, 9, 2, BIG + "80 0 l");
    }

    private static void emptyPaths() {
        Check.outcome(NOPOINT, 0, 1, "h");
        Check.outcome(NOPOINT, 2, 1, "1 1 l");
        Check.outcome(OK, -1, 3, "1 1 m h 2 2 l");
        for (String operator : new String[] {"f", "F", "S", "W", "V", "n"}) {
            Check.outcome(OK, -1, 1, operator);
            Check.outcome(NOPOINT, 4, 3, "1 1 m " + operator + " h");
            Check.outcome(NOPOINT, 6, 3, "1 1 m " + operator + " 2 2 l");
        }
        Check.outcome(NOPOINT, 5, 3, "1 1 m 1 Do h", "");
        Check.outcome(NOPOINT, 2, 3, "1 Do h", "1 1 m");
        Check.outcome(NOPOINT, 64, 3, "1 1 m 1 Do", "h");
        Check.outcome(NOPOINT, 3, 3, "1 9 Dg h", "1 1 m");
        Check.outcome(OK, -1, 5, "q 1 1 m Q h 2 g");
    }

    private static void longPaths() {
        Check.outcome(OK, -1, 25, "1 1 m " + Check.times(24, "h"));
        Check.outcome(LONG, 27, 26, "1 1 m " + Check.times(25, "h"));
        Check.outcome(LONG, 29, 26, "1 1 m " + Check.times(24, "h") + "5 5 l");
        Check.outcome(LONG, 32, 27, "1 1 m " + Check.times(24, "h") + "5 5 m 6 6 l");
        Check.outcome(OK, -1, 26, "1 1 m " + Check.times(24, "h") + "5 5 m");
        Check.outcome(OK, -1, 28, "1 1 m " + Check.times(24, "h") + "n 5 5 m 6 6 l");
        Check.outcome(RANGE, 36, 27, BIG + "1 1 m " + Check.times(24, "h") + "81 0 l");
        Check.outcome(LONG, 36, 27, BIG + "1 1 m " + Check.times(24, "h") + "80 0 l");
    }

    private static void rectangles() {
        String part = "0 0 m ";
        Check.outcome(OK, -1, 22, part + Check.times(20, "h") + "1 1 2 2 re");
        Check.outcome(LONG, 28, 23, part + Check.times(21, "h") + "1 1 2 2 re");
        Check.outcome(RANGE, 11, 2, BIG + "81 0 0 0 re");
        Check.outcome(RANGE, 11, 2, BIG + "80 0 1 0 re");
        Check.outcome(RANGE, 11, 2, BIG + "0 80 0 1 re");
        Check.outcome(RANGE, 11, 2, BIG + "0 -80 0 -1 re");
        Check.outcome(OK, -1, 2, BIG + "80 -80 -160 160 re");
        Check.outcome(OK, -1, 1, "1000 1000 1000 1000 re");
        Check.outcome(OK, -1, 1, "-1000 -1000 -1000 -1000 re");
        String full = BIG + part + Check.times(24, "h");
        Check.outcome(RANGE, 38, 27, full + "80 0 1 0 re");
        Check.outcome(LONG, 38, 27, full + "0 80 0 1 re");
        Check.outcome(RANGE, 37, 26, BIG + part + Check.times(23, "h") + "0 80 0 1 re");
        Check.outcome(LONG, 37, 26, BIG + part + Check.times(23, "h") + "0 79 0 1 re");
    }

    private static void saves() {
        Check.outcome(OK, -1, 6, Check.times(6, "q"));
        Check.outcome(NEST, 6, 7, Check.times(7, "q"));
        Check.outcome(OK, -1, 14, Check.times(6, "q") + "Q q " + Check.times(6, "Q"));
        Check.outcome(NEST, 0, 1, "Q");
        Check.outcome(NEST, 2, 3, "q Q Q");
        Check.outcome(NEST, 64, 3, "q 1 Do", "Q");
        Check.outcome(NEST, 66, 5, "q 1 Do", "q Q Q");
        Check.outcome(NEST, 2, 3, "1 Do Q", "q");
        Check.outcome(OK, -1, 5, "q 1 Do Q", "q q");
        Check.outcome(NEST, 4, 6, "q 1 Do Q Q", "q q");
        Check.outcome(OK, -1, 18, "q q q 1 Do 1 Do q q q Q Q Q Q Q Q", "q q");
        Check.outcome(NEST, 65, 7, "q q q q 1 Do", "q q q");
    }

    private static void matrices() {
        for (int at = 0; at < 6; at++) {
            int limit = at < 4 ? 50 : 4000;
            int part = at < 4 ? 50 : 1000;
            for (int sign = -1; sign <= 1; sign += 2) {
                StringBuilder moves = new StringBuilder();
                for (int sum = 0; at >= 4 && sum < limit; sum += part) {
                    moves.append(matrix(at, sign * part));
                }
                String most = at < 4 ? matrix(at, sign * part) : moves.toString();
                int steps = at < 4 ? 1 : 4;
                Check.outcome(OK, -1, steps, most);
                String over = at < 4 ? matrix(at, sign * 51) : most + matrix(at, sign);
                int calls = at < 4 ? 1 : 5;
                Check.outcome(RANGE, 7 * calls - 1, calls, over);
            }
        }
        Check.outcome(OK, -1, 2, "10 0 0 1 0 0 cm 5 0 0 1 0 0 cm");
        Check.outcome(RANGE, 13, 2, "10 0 0 1 0 0 cm 6 0 0 1 0 0 cm");
        Check.outcome(RANGE, 13, 2, BIG + "1 0 0 1 81 0 cm");
        Check.outcome(OK, -1, 2, BIG + "1 0 0 1 80 80 cm");
        Check.outcome(OK, -1, 2, BIG + "0 0 0 0 80 80 cm");
    }

    private static String matrix(int at, int value) {
        int[] numbers = {1, 0, 0, 1, 0, 0};
        numbers[at] = value;
        StringBuilder text = new StringBuilder();
        for (int number : numbers) {
            text.append(number).append(' ');
        }
        return text + "cm ";
    }

    private static void numbers() {
        Check.outcome(OK, -1, 2, "0 g 255 g");
        Check.outcome(RANGE, 1, 1, "-1 g");
        Check.outcome(RANGE, 1, 1, "256 g");
        Check.outcome(OK, -1, 2, "0 w 60 w");
        Check.outcome(RANGE, 1, 1, "-1 w");
        Check.outcome(RANGE, 1, 1, "61 w");
    }

    private static void draws() {
        Check.outcome(OK, -1, 5, "1 Do 2 Do 3 Do 4 Do 5 Do");
        Check.outcome(RANGE, 1, 1, "-1 Do");
        Check.outcome(RANGE, 1, 1, "6 Do");
        Check.outcome(NEST, 1, 1, "0 Do");
        Check.outcome(NEST, 65, 2, "1 Do", "1 Do");
        Check.outcome(NEST, 65, 2, "1 Do", "0 Do");
        Check.outcome(OK, -1, 4, "1 Do 2 Do 1 Do", "", "1 Do");
        Check.outcome(OK, -1, 5, "1 Do", "2 Do", "3 Do", "4 Do", "5 Do", "");
        Check.outcome(NEST, 5 * 64 + 1, 7, "1 Do", "2 Do", "3 Do", "4 Do", "5 Do", "q q");
        Check.outcome(NEST, 7, 7, Check.times(6, "q") + "1 Do");
        Check.outcome(RANGE, 7, 7, Check.times(6, "q") + "6 Do");
        Check.outcome(OK, -1, 6, Check.times(5, "q") + "1 Do", "");
        Check.outcome(NEST, 64, 7, Check.times(5, "q") + "1 Do", "q");
    }

    private static void groups() {
        Check.outcome(OK, -1, 2, "1 0 Dg 1 16 Dg");
        Check.outcome(RANGE, 2, 1, "1 -1 Dg");
        Check.outcome(RANGE, 2, 1, "1 17 Dg");
        Check.outcome(RANGE, 2, 1, "-1 8 Dg");
        Check.outcome(RANGE, 2, 1, "6 8 Dg");
        Check.outcome(RANGE, 2, 1, "0 17 Dg");
        Check.outcome(NEST, 2, 1, "0 16 Dg");
        Check.outcome(NEST, 66, 2, "1 8 Dg", "1 8 Dg");
        Check.outcome(OK, -1, 5, "1 1 Dg", "2 2 Dg", "3 3 Dg", "4 4 Dg", "5 5 Dg", "");
        Check.outcome(NEST, 8, 7, Check.times(6, "q") + "1 8 Dg");
        Check.outcome(RANGE, 8, 7, Check.times(6, "q") + "1 17 Dg");
        Check.outcome(NEST, 64, 2, "1 8 Dg", "Q");
        Check.outcome(OK, -1, 4, "1 8 Dg n", "q q");
    }

    private static void firstFaultEnds() {
        PageRenderer x = Check.outcome(NEST, 6, 3, "0 0 4 4 re f Q 4 0 4 4 re f");
        Check.due("what was painted before stays, and no more is", x.row(0), 1);
        Check.due("by before", x.by(0, 0), 5);
        Check.due("by after", x.by(1, 0), -1);
        Check.due("renderAt(0)", x.renderAt(0), OK);
        Check.due("all pixels are 0 again", x.count(0), 192);
        Check.due("no painter again", x.by(0, 0), -1);
        Check.due("faultAt after OK", x.faultAt(), -1);
    }
}
