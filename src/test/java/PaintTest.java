import java.util.Arrays;

/** Promises 7 and 11 to 14 and every sentence about what is painted, with which colour and by which operator. */
public final class PaintTest {
    private static final int OK = PageRenderer.OK, NEST = PageRenderer.NEST;
    private static final String ALL = "0 0 64 48 re f";
    private static final int[][] OUTSIDE = {
        {-1, 0}, {16, 0}, {0, -1}, {0, 12}, {Integer.MIN_VALUE, 0}, {Integer.MAX_VALUE, 0}, {0, Integer.MIN_VALUE},
        {0, Integer.MAX_VALUE}, {-1, 1}, {16, 11}, {-1, -1}, {16, 12}, {-16, 1}, {32, -1}, {1 << 28, 1 << 28}
    };

    public static void main(String[] args) {
        stateAtFirst();
        renderingsBeginAnew();
        tokensInOrder();
        currentPoints();
        partsAfterClosing();
        rectangles();
        pixelPoints();
        lastEdges();
        edgesBetween();
        edgesLeft();
        sums();
        oddNumbers();
        fillsInClip();
        lines();
        linesAtHalfTheWidth();
        linesStayOpen();
        linesWithoutEdges();
        linesInClip();
        clips();
        nothing();
        pathsAreEmptyAfter();
        restoredStates();
        pathsAreKept();
        matrices();
        colours();
        widths();
        drawnStreams();
        drawnStates();
        drawnPaths();
        groupLayers();
        groupMixes();
        groupsOverNothing();
        groupClips();
        groupsAtFaults();
        wholePage();
        pixelsOutside();
        painters();
        mixedPainters();
        paintersOutside();
        counts();
        rowsOfBits();
        rowsOutside();
        Check.finish("PaintTest");
    }

    private static int[] rowsOf(int bits) {
        int[] rows = new int[12];
        Arrays.fill(rows, bits);
        return rows;
    }

    private static void stateAtFirst() {
        Check.sentence("STATE: at first (1 0 0 1 0 0); .. 1; .. 4; .. all; .. none; .. empty");
        PageRenderer x = Check.rows(ALL, rowsOf(65535));
        Check.due("the colour at first", x.count(1), 192);
        Check.rows("4 4 24 16 re f", 0, 126, 126, 126, 126);
        Check.rows("1 0 m 1 20 l S", 1, 1, 1, 1, 1);
        Check.rows("0 0 m 0 20 l S");
        Check.rows("f F S");
        Check.outcome(NEST, 0, 1, "Q");
        Check.outcome(PageRenderer.NOPOINT, 0, 1, "h");
    }

    private static void renderingsBeginAnew() {
        Check.sentence("STATE of a rendering");
        String[] leftovers = {
            "q q q q q q", "q 9 g q 4 0 0 4 0 0 cm", "9 g 50 w", "1 0 0 1 9 9 cm", "W", "q V q", "0 0 64 48 re",
            "16 16 m", "1 2 3", "1 9 Dg", "Q", "7 g 0 0 64 48 re f", "q 2 Do"
        };
        for (String leftover : leftovers) {
            PageRenderer x = Check.document(leftover, "q q 9 g Q 1 0 0 1 9 9 cm 0 0 64 48 re Q Q", "W q q 3 3 m");
            Check.put(x, 0, "f 0 0 8 4 re f 2 8 m 2 20 l S q q q q q q");
            x.renderAt(3);
            Check.due("render after " + leftover, x.render(), OK);
            Check.due("row 0 after " + leftover, x.row(0), 3);
            Check.due("row 1 after " + leftover, x.row(1), 1);
            Check.due("row 5 after " + leftover, x.row(5), 0);
            Check.due("count(1) after " + leftover, x.count(1), 6);
            Check.put(x, 0, "2 2 l");
            Check.due("no point after " + leftover, x.render(), PageRenderer.NOPOINT);
        }
    }

    private static void tokensInOrder() {
        Check.sentence("STATE: The tokens of a stream are executed in their order");
        PageRenderer x = Check.rows("0 0 8 4 re f 2 g 4 0 8 4 re f 3 g 8 0 8 4 re f", 15);
        Check.due("the first", x.pixel(0, 0), 1);
        Check.due("the second", x.pixel(1, 0), 2);
        Check.due("the third", x.pixel(2, 0), 3);
        // As many tokens as the units allow, and still all of them up to the last one.
        String five = Check.times(5, "1 0 0 1 0 0 cm");
        x = Check.outcome(OK, -1, 194, Check.times(16, "1 Do") + "0 0 4 4 re f", five + "2 Do", five);
        Check.due("row(0) after more than a thousand tokens", x.row(0), 1);
        Check.outcome(PageRenderer.TIME, 2 * 64 + 13, 200, Check.times(17, "1 Do"), five + "2 Do", five);
    }

    private static void currentPoints() {
        Check.sentence("l: an edge from the current point (the end of the newest part's last edge, or its beginning)");
        Check.rows("0 w 0 0 m 20 20 l S", 1, 2, 4, 8, 16);
        Check.rows("0 w 0 0 m 30 0 l 20 20 m 0 0 l S", 1, 2, 4, 8, 16);
        Check.rows("0 w 40 0 m 0 0 l 20 20 l S", 1, 2, 4, 8, 16);
        Check.rows("0 w 40 0 m 0 0 m 20 20 l 20 0 l S", 1, 2, 4, 8, 16);
        // The matrix of the later operator does not move the points that are there.
        Check.rows("0 w 0 0 m 1 0 0 1 20 20 cm 0 0 l S", 1, 2, 4, 8, 16);
    }

    private static void partsAfterClosing() {
        Check.sentence("h: an edge to the beginning of the newest part (Further edges go on from there, in the same part)");
        Check.rows("0 w 20 20 m 0 20 l 0 0 l h S", 1, 2, 4, 8, 16);
        Check.rows("0 w 40 40 m 45 40 l 20 20 m 0 20 l 0 0 l h S", 1, 2, 4, 8, 16);
        Check.rows("0 w 0 0 m 30 0 l h 20 20 l S", 1, 2, 4, 8, 16);
        Check.rows("0 w 20 20 m h 0 0 l S", 1, 2, 4, 8, 16);
        // Two triangles that share the corner at the beginning; both are closed to it.
        Check.rows("0 0 m 16 0 l 16 16 l h 16 16 l 0 16 l f", 15, 15, 15, 15);
    }

    private static void rectangles() {
        Check.sentence("re: as m x y, l x+w y, l x+w y+h, l x y+h, h");
        Check.rows("4 4 24 16 re f", 0, 126, 126, 126, 126);
        Check.rows("28 20 -24 -16 re f", 0, 126, 126, 126, 126);
        Check.rows("28 4 -24 16 re f", 0, 126, 126, 126, 126);
        Check.rows("4 20 24 -16 re f", 0, 126, 126, 126, 126);
        Check.rows("4 4 24 0 re 4 4 0 16 re f");
        // All four sides are edges for S, and the current point is the first corner then.
        Check.rows("1 w 2 2 12 12 re S", 15, 9, 9, 7);
        Check.rows("0 w 0 0 9 0 re 20 20 l S", 1, 2, 4, 8, 16);
    }

    private static void pixelPoints() {
        Check.sentence("INSIDE: A pixel (i, j) stands for the point (4 i + 2.5, 4 j + 2.5)");
        Check.rows("2 2 1 1 re f", 1);
        Check.rows("3 2 3 1 re f");
        Check.rows("2 3 1 3 re f");
        Check.rows("1 2 1 1 re f");
        Check.rows("2 1 1 1 re f");
        // At the height of row 0 these edges are at 2.83 and at 2.17, to the right and to the left of 2.5.
        Check.rows("2 0 m 3 3 l 8 3 l 8 0 l f", 2);
        Check.rows("3 0 m 2 3 l 8 3 l 8 0 l f", 3);
        PageRenderer x = Check.rows("62 46 1 1 re f", 0, 0, 0, 0, 0, 0, 0, 0, 0, 0, 0, 32768);
        Check.due("pixel(15, 11)", x.pixel(15, 11), 1);
        Check.rows("63 46 9 9 re 62 47 9 9 re f");
        Check.rows("-99 -99 101 999 re -99 -99 999 101 re f");
        Check.rows("-10 -10 100 100 re f", rowsOf(65535));
    }

    private static void lastEdges() {
        Check.sentence("INSIDE: a part that does not end at its beginning has a last edge to it as well");
        Check.rows("0 0 m 8 0 l 8 4 l 0 4 l f", 3);
        Check.rows("0 0 m 8 0 l 8 4 l 0 4 l F", 3);
        Check.rows("0 0 m 8 0 l 8 4 l 0 4 l W " + ALL, 3);
        Check.rows("0 0 m 8 0 l 8 4 l 0 4 l V " + ALL, 3);
        Check.rows("0 0 m 8 0 l 8 4 l 0 4 l h f", 3);
        // Each part has its own one, and a part without edges none.
        Check.rows("0 0 m 8 0 l 8 4 l 0 4 l 16 0 m 24 0 l 24 4 l 16 4 l f", 51);
        Check.rows("0 0 m 8 0 l 8 4 l 0 4 l 40 40 m f", 3);
        Check.rows("40 40 m 0 0 m 8 0 l 8 4 l 0 4 l f", 3);
        Check.rows("0 0 m 40 0 l 40 10 m f");
        Check.rows("0 0 m f");
        // It is there even if the path has 24 edges already, of one part or of several.
        Check.rows("0 0 m " + Check.times(20, "h") + "8 0 l 8 4 l 0 4 l 0 3 l f", 3);
        Check.rows("0 0 m 8 0 l 8 4 l 0 4 l 9 9 m " + Check.times(21, "h") + "f", 3);
    }

    private static void edgesBetween() {
        Check.sentence("INSIDE: An edge counts if y lies between y1 and y2");
        Check.rows("0 0 8 2 re f");
        Check.rows("0 0 8 3 re f", 3);
        Check.rows("0 3 8 3 re f");
        Check.rows("0 2 8 1 re f", 3);
        Check.rows("0 3 8 -1 re f", 3);
        Check.rows("0 47 8 -1 re f", 0, 0, 0, 0, 0, 0, 0, 0, 0, 0, 0, 3);
        Check.rows("0 47 8 3 re f");
        Check.rows("0 2 m 60 2 l 0 2 l 60 3 m 0 3 l f");
    }

    private static void edgesLeft() {
        Check.sentence("INSIDE: the place lies left of x (smaller, not equal)");
        // At the height of row 0 the edges are at 2.5 and 34.5: the points of pixels 0 and 8.
        Check.rows("5 0 m 0 5 l 64 5 l f", 510);
        Check.rows("5 0 m 64 5 l 0 5 l f", 510);
        Check.rows("5 0 m 64 5 l 0 5 l F", 510);
        Check.rows("0 0 m 5 5 l 0 5 l f", 1);
        Check.rows("0 0 m 5 5 l 5 0 l f");
        Check.rows("0 0 m 4 5 l 5 0 l f", 1);
        // The longest edge that there is passes through all points of the diagonal.
        String far = "50 0 0 50 0 0 cm ";
        PageRenderer x = Check.rows(far + "-80 -80 m 80 80 l 80 -80 l F", 65534, 65532, 65528, 65520, 65504, 65472, 65408,
            65280, 65024, 64512, 63488, 61440);
        Check.due("pixel(0, 0)", x.pixel(0, 0), 0);
        Check.rows(far + "-80 -80 m 80 80 l -80 80 l f", 1, 3, 7, 15, 31, 63, 127, 255, 511, 1023, 2047, 4095);
    }

    private static void sums() {
        Check.sentence("INSIDE: Inside by f and W: the sum of what counts isn't 0");
        Check.rows("0 0 20 20 re 4 4 12 12 re f", 31, 31, 31, 31, 31);
        Check.rows("0 0 20 20 re 16 4 -12 12 re f", 31, 17, 17, 17, 31);
        Check.rows("0 0 8 4 re 0 0 8 4 re f", 3);
        Check.rows("0 0 8 4 re 8 0 -8 4 re f");
        Check.rows("8 0 -8 4 re f", 3);
        Check.rows("0 0 20 20 re 4 4 12 12 re W " + ALL, 31, 31, 31, 31, 31);
        Check.rows("0 0 20 20 re 16 4 -12 12 re W " + ALL, 31, 17, 17, 17, 31);
        Check.rows("8 0 -8 4 re 8 0 -8 4 re W " + ALL, 3);
    }

    private static void oddNumbers() {
        Check.sentence("INSIDE: Inside by F and V: the number of edges that count is odd");
        Check.rows("0 0 20 20 re 4 4 12 12 re F", 31, 17, 17, 17, 31);
        Check.rows("0 0 20 20 re 16 4 -12 12 re F", 31, 17, 17, 17, 31);
        Check.rows("0 0 8 4 re 0 0 8 4 re F");
        Check.rows("0 0 8 4 re 8 0 -8 4 re F");
        Check.rows("0 0 8 4 re 0 0 8 4 re 0 0 8 4 re F", 3);
        Check.rows("0 0 8 4 re 0 0 8 4 re 8 0 -8 4 re F", 3);
        Check.rows("8 0 -8 4 re 8 0 -8 4 re 8 0 -8 4 re F", 3);
        Check.rows("0 0 20 20 re 4 4 12 12 re V " + ALL, 31, 17, 17, 17, 31);
        Check.rows("0 0 20 20 re 16 4 -12 12 re V " + ALL, 31, 17, 17, 17, 31);
    }

    private static void fillsInClip() {
        Check.sentence("f, F: every pixel inside and in the clip gets the colour");
        Check.rows("0 0 12 8 re W 4 4 40 40 re f", 0, 6);
        Check.rows("0 0 12 8 re W 4 4 40 40 re F", 0, 6);
        Check.rows("W " + ALL);
        PageRenderer x = Check.rows("0 0 8 4 re f 9 g 4 0 8 4 re F", 7);
        Check.due("the later colour", x.pixel(1, 0), 9);
        Check.due("the earlier colour", x.pixel(0, 0), 1);
    }

    private static void lines() {
        Check.sentence("S: every pixel whose point is at most half the width away from some edge of the path");
        Check.rows("0 w 0 0 m 20 20 l S", 1, 2, 4, 8, 16);
        Check.rows("0 w 20 20 m 0 0 l S", 1, 2, 4, 8, 16);
        Check.rows("0 w 0 0 m 2 2 l S");
        Check.rows("0 w 3 3 m 20 20 l S", 0, 2, 4, 8, 16);
        Check.rows("5 w 0 6 m 10 6 l S", 0, 7);
        // Round ends: the corners at pixels 1 and 5 of row 1 are too far away.
        Check.rows("8 w 10 10 m 20 10 l S", 0, 28, 62);
        Check.rows("8 w 20 10 m 10 10 l S", 0, 28, 62);
        Check.rows("5 w 3 3 m 3 3 l S", 1);
        // The width is not a matter of the matrix.
        Check.rows("2 0 0 2 0 0 cm 5 w 0 0 m 0 10 l S", 1, 1, 1, 1, 1);
        Check.rows("50 0 0 50 0 0 cm 0 w -80 -80 m 80 80 l S", 1, 2, 4, 8, 16, 32, 64, 128, 256, 512, 1024, 2048);
    }

    private static void linesAtHalfTheWidth() {
        Check.sentence("S: at most half the width (just as far is near enough)");
        Check.rows("5 w 0 0 m 0 20 l S", 1, 1, 1, 1, 1);
        Check.rows("4 w 0 0 m 0 20 l S");
        Check.rows("3 w 0 4 m 60 4 l S", 32767);
        Check.rows("2 w 0 4 m 60 4 l S");
        // The slanted edge passes pixels (0, 0) and (3, 4) at a distance of one half, and three others closer.
        Check.rows("1 w 0 0 m 30 40 l S", 1, 0, 0, 4, 8, 0, 0, 32, 64);
        Check.rows("0 w 0 0 m 30 40 l S");
        Check.rows("60 w -28 2 m -28 3 l S");
        Check.rows("60 w -27 2 m -27 3 l S", 1, 1);
        Check.rows("60 w 1000 1000 m 1000 900 l S");
        Check.rows("59 w -27 -9 m -27 60 l S", rowsOf(1));
        Check.rows("58 w -27 -9 m -27 60 l S");
    }

    private static void linesStayOpen() {
        Check.sentence("S: (parts stay open here)");
        Check.rows("0 w 0 0 m 40 0 l 20 20 l S");
        Check.rows("0 w 20 20 m 40 0 l 0 0 l h S", 1, 2, 4, 8, 16);
        Check.rows("5 w 0 0 m 40 0 l 40 20 l S", 2047, 1536, 1536, 1536, 1536);
        Check.rows("0 w 20 20 m 20 40 l 0 40 m 0 0 l S");
    }

    private static void linesWithoutEdges() {
        Check.sentence("S: (a part without edges gives nothing)");
        Check.rows("5 w 3 3 m S");
        Check.rows("60 w 8 0 m 8 8 m 0 8 m S");
        Check.rows("5 w 0 0 m 0 20 l 40 20 m S", 1, 1, 1, 1, 1);
        Check.rows("5 w 40 20 m 0 0 m 0 20 l S", 1, 1, 1, 1, 1);
        Check.rows("60 w S");
        PageRenderer x = Check.rows("0 0 64 4 re f 9 g 40 0 m S", 65535);
        Check.due("nothing of an earlier fill is painted again", x.count(9), 0);
        // h makes an edge of no length, which is an edge.
        Check.rows("5 w 3 3 m h S", 1);
    }

    private static void linesInClip() {
        Check.sentence("S: likewise every pixel of the clip");
        Check.rows("0 0 8 8 re W 60 w 0 0 m 60 0 l S", 3, 3);
        Check.rows("V 60 w 0 0 m 60 0 l S");
        PageRenderer x = Check.rows("200 g 5 w 0 0 m 0 20 l S", 1, 1, 1, 1, 1);
        Check.due("with the colour", x.count(200), 5);
    }

    private static void clips() {
        Check.sentence("W, V: the clip becomes those of its pixels that are inside");
        Check.rows("0 0 12 8 re W 4 0 40 40 re W " + ALL, 6, 6);
        Check.rows("0 0 12 8 re V 4 0 40 40 re V " + ALL, 6, 6);
        Check.rows("0 0 12 8 re W 20 0 12 8 re W " + ALL);
        Check.rows("0 0 12 8 re W 0 0 64 48 re W " + ALL, 7, 7);
        Check.rows("W " + ALL);
        Check.rows("V " + ALL);
        Check.rows("5 5 m W " + ALL);
        Check.rows("0 0 64 48 re V " + ALL, rowsOf(65535));
        // Neither paints anything.
        Check.rows("0 0 12 8 re W");
        Check.rows("0 0 12 8 re V");
    }

    private static void nothing() {
        Check.sentence("n: nothing");
        Check.rows("0 0 8 4 re n");
        Check.rows("0 0 8 4 re n " + ALL, rowsOf(65535));
    }

    private static void pathsAreEmptyAfter() {
        Check.sentence("After each of these six the path is empty");
        for (String operator : new String[] {"f", "F", "S", "W", "V", "n"}) {
            PageRenderer x = Check.document("0 0 8 4 re 0 g " + operator + " 9 g f 60 w S");
            Check.due("render with " + operator, x.render(), OK);
            Check.due("count(9) with " + operator, x.count(9), 0);
        }
        Check.rows("0 0 8 4 re n 16 0 8 4 re f", 48);
        Check.rows("0 0 m 8 0 l 8 4 l n 16 0 m 24 0 l 24 4 l 16 4 l f", 48);
    }

    private static void restoredStates() {
        Check.sentence("Q: the matrix, colour, width and clip become the ones saved last");
        PageRenderer x = Check.rows("q 7 g 5 w 1 0 0 1 8 0 cm Q 0 0 4 4 re f 0 10 m 0 30 l S", 1);
        Check.due("the colour", x.count(1), 1);
        x = Check.rows("q 7 g 5 w 1 0 0 1 8 0 cm 0 0 4 4 re f 0 10 m 0 20 l S", 4, 0, 6, 6, 6);
        Check.due("the colour before Q", x.count(7), 7);
        Check.rows("5 w q 0 0 m 0 20 l S", 1, 1, 1, 1, 1);
        Check.rows("5 w q 2 w Q 0 0 m 0 20 l S", 1, 1, 1, 1, 1);
        Check.rows("5 w q 2 w q Q Q 0 0 m 0 20 l S", 1, 1, 1, 1, 1);
        Check.rows("5 w q 2 w q 0 0 m 0 20 l S");
        Check.rows("q V Q 0 0 8 4 re f", 3);
        Check.rows("q W q Q " + ALL);
        Check.rows("q 0 0 4 4 re W q 4 4 4 4 re W Q " + ALL, 1);
        x = Check.rows("2 g q 3 g q 4 g q 5 g q 6 g q 7 g q 8 g Q Q Q 0 0 4 4 re f Q Q Q 4 0 4 4 re f", 3);
        Check.due("after three of six", x.pixel(0, 0), 5);
        Check.due("after six of six", x.pixel(1, 0), 2);
        x = Check.rows("2 g q 3 g Q q Q 0 0 4 4 re f", 1);
        Check.due("what was restored is no longer saved", x.pixel(0, 0), 2);
    }

    private static void pathsAreKept() {
        Check.sentence("Q: The path is not touched");
        PageRenderer x = Check.rows("0 0 8 4 re q 3 g Q f", 3);
        Check.due("the colour", x.count(1), 2);
        Check.rows("q 1 0 0 1 8 0 cm 0 0 8 4 re Q f", 12);
        Check.rows("0 w 20 20 m q 0 20 l 0 0 l Q h S", 1, 2, 4, 8, 16);
    }

    private static void matrices() {
        Check.sentence("cm: the new matrix maps a point as the operands do first and the old one then");
        Check.rows("1 0 0 1 8 0 cm 2 0 0 2 0 0 cm 0 0 4 4 re f", 12, 12);
        Check.rows("2 0 0 2 0 0 cm 1 0 0 1 8 0 cm 0 0 4 4 re f", 48, 48);
        Check.rows("2 0 0 2 0 0 cm 1 0 0 1 0 8 cm 0 0 4 4 re f", 0, 0, 0, 0, 3, 3);
        Check.rows("0 1 -1 0 32 0 cm 0 0 8 12 re f", 224, 224);
        Check.rows("0 1 -1 0 32 0 cm 2 0 0 1 4 8 cm 0 0 4 4 re f", 0, 32, 32);
        Check.rows("1 0 2 1 0 0 cm 0 0 8 8 re f", 6, 24);
        Check.rows("1 2 0 1 0 0 cm 0 0 8 8 re f", 0, 1, 1, 2, 2);
        Check.rows("3 0 0 3 0 0 cm 0 0 0 0 4 4 cm 0 0 9 9 re f");
        Check.rows("0 0 8 4 re 1 0 0 1 16 16 cm 4 4 m f", 3);
        Check.rows("-1 0 0 -1 64 48 cm 0 0 8 4 re f", 0, 0, 0, 0, 0, 0, 0, 0, 0, 0, 0, 49152);
    }

    private static void colours() {
        Check.sentence("g: the colour becomes c");
        PageRenderer x = Check.rows("255 g 0 0 4 4 re f 0 g 4 0 4 4 re f 7 g 8 0 4 4 re f", 5);
        Check.due("255", x.pixel(0, 0), 255);
        Check.due("0", x.pixel(1, 0), 0);
        Check.due("0 is painted", x.by(1, 0), 15);
        Check.due("7", x.pixel(2, 0), 7);
    }

    private static void widths() {
        Check.sentence("w: the width becomes n");
        Check.rows("60 w -27 -9 m -27 60 l S", rowsOf(1));
        Check.rows("0 w 2 -9 m 2 60 l S");
        Check.rows("60 w 1 w 2 -9 m 2 60 l S", rowsOf(1));
    }

    private static void drawnStreams() {
        Check.sentence("Do: stream s is executed");
        Check.rows("1 Do 1 Do|0 0 8 4 re f", 3);
        Check.rows("3 Do");
        Check.rows("5 Do 0 0 4 4 re f|||||4 0 4 4 re f", 3);
        Check.rows("1 Do|2 Do|3 Do|4 Do|5 Do|4 4 24 16 re f", 0, 126, 126, 126, 126);
        PageRenderer x = Check.rows("0 0 4 4 re f|4 0 4 4 re f", 1);
        Check.due("again", x.render(), OK);
        Check.due("only what is drawn", x.row(0), 1);
    }

    private static void drawnStates() {
        Check.sentence("Do: the state is saved, .. and then states are restored up to and with this one");
        PageRenderer x = Check.rows(
            "9 g 1 0 0 1 8 4 cm 1 Do 0 0 4 4 re f|0 0 8 4 re F 2 g 0 4 4 4 re f 50 w q q 4 0 0 4 0 0 cm", 0, 12, 4);
        Check.due("the state goes in and comes back: 9", x.count(9), 2);
        Check.due("the inner colour", x.pixel(2, 2), 2);
        Check.due("painted after", x.by(2, 1), 16);
        Check.due("painted inside", x.by(3, 1), 64 + 5);
        Check.rows("1 Do 0 0 8 4 re f|0 0 4 4 re W", 3);
        Check.rows("0 0 4 4 re W 1 Do|" + ALL, 1);
        Check.rows("1 Do 0 0 m 0 20 l S|60 w");
        Check.rows("5 w 1 Do|0 0 m 0 20 l S", 1, 1, 1, 1, 1);
        Check.rows("5 w 1 Do 0 0 m 0 20 l S|q 0 w", 1, 1, 1, 1, 1);
        x = Check.rows("5 g 1 Do 0 0 4 4 re f|6 g q 7 g q 8 g q 9 g Q", 1);
        Check.due("what was left saved is restored too", x.pixel(0, 0), 5);
    }

    private static void drawnPaths() {
        Check.sentence("Do: the path becomes empty, ..; the path is empty again");
        Check.rows("0 0 8 4 re 1 Do f|n");
        Check.rows("0 0 8 4 re 1 Do|f");
        Check.rows("1 Do f|0 0 8 4 re");
        Check.rows("1 8 Dg f|0 0 8 4 re");
        Check.rows("0 0 8 4 re 1 16 Dg|f");
    }

    private static void groupLayers() {
        Check.sentence("Dg: stream s paints on a new uppermost layer with nothing on it");
        PageRenderer x = Check.rows("1 8 Dg|2 Do|100 g 0 0 4 4 re f", 1);
        Check.due("Do paints on the layer that is there", x.pixel(0, 0), 50);
        x = Check.rows("1 8 Dg 1 8 Dg|100 g 0 0 4 4 re f", 1);
        Check.due("nothing of the first group is in the second", x.pixel(0, 0), 75);
        x = Check.rows("1 16 Dg 5 g 0 0 4 4 re f 2 16 Dg|9 g 0 0 4 4 re f|9 g 4 0 4 4 re f", 3);
        Check.due("it does not paint there again", x.pixel(0, 0), 5);
        x = Check.rows("1 16 Dg|2 16 Dg 3 16 Dg|7 g 0 0 4 4 re f|0 0 4 4 re W", 1);
        Check.due("a group without paint", x.pixel(0, 0), 7);
        x = Check.rows("100 g 0 0 8 4 re f 1 4 Dg|0 0 8 4 re f 200 g 0 0 4 4 re f", 3);
        Check.due("the group is one picture", x.pixel(0, 0), 125);
        Check.due("the rest of it", x.pixel(1, 0), 100);
        x = Check.rows("1 8 Dg 100 g 0 0 4 4 re f|60 g 0 0 8 4 re f", 3);
        Check.due("after it the page is painted on", x.pixel(0, 0), 100);
        Check.due("what the group left there", x.pixel(1, 0), 30);
    }

    private static void groupMixes() {
        Check.sentence("Dg: gets on the layer below (a c + (16 - a) o) / 16, rounded down");
        PageRenderer x = Check.rows("200 g 0 0 8 4 re f 1 8 Dg|9 g 4 0 8 4 re f", 7);
        Check.due("left alone", x.pixel(0, 0), 200);
        Check.due("half of both, rounded down", x.pixel(1, 0), 104);
        Check.due("half with the page's 0", x.pixel(2, 0), 4);
        int[][] mixes = {
            {0, 9, 200, 200}, {16, 9, 200, 9}, {1, 9, 200, 188}, {15, 9, 200, 20}, {8, 0, 100, 50}, {15, 255, 255, 255},
            {1, 255, 255, 255}, {1, 15, 0, 0}, {1, 16, 0, 1}, {15, 1, 0, 0}, {15, 255, 0, 239}, {1, 0, 255, 239},
            {0, 255, 0, 0}, {16, 0, 255, 0}, {7, 3, 4, 3}, {8, 254, 255, 254}
        };
        for (int[] mix : mixes) {
            x = Check.document(mix[2] + " g 0 0 4 4 re f 1 " + mix[0] + " Dg", mix[1] + " g 0 0 4 4 re f");
            Check.due("render", x.render(), OK);
            Check.due(mix[1] + " over " + mix[2] + " by " + mix[0], x.pixel(0, 0), mix[3]);
        }
    }

    private static void groupsOverNothing() {
        Check.sentence("Dg: or c if there is nothing there");
        PageRenderer x = Check.rows("1 16 Dg|2 8 Dg|100 g 0 0 4 4 re f", 1);
        Check.due("the colour itself", x.pixel(0, 0), 100);
        x = Check.rows("1 8 Dg|2 8 Dg|100 g 0 0 4 4 re f", 1);
        Check.due("mixed with the page alone", x.pixel(0, 0), 50);
        x = Check.rows("1 16 Dg|2 0 Dg|100 g 0 0 4 4 re f", 1);
        Check.due("with a share of 0 too", x.pixel(0, 0), 100);
        x = Check.rows("1 8 Dg|40 g 0 0 8 4 re f 2 8 Dg|100 g 0 0 4 4 re f", 3);
        Check.due("mixed twice", x.pixel(0, 0), 35);
        Check.due("mixed once", x.pixel(1, 0), 20);
        x = Check.rows("1 16 Dg|0 g 0 0 4 4 re f 2 8 Dg|100 g 0 0 4 4 re f", 1);
        Check.due("a painted 0 is not nothing", x.pixel(0, 0), 50);
        x = Check.rows("9 g 0 0 4 4 re f 1 16 Dg|2 8 Dg|0 g 0 0 4 4 re f");
        Check.due("a painted 0 is a colour over nothing", x.by(0, 0), 128 + 7);
        x = Check.rows("1 8 Dg|2 8 Dg 1 g 0 0 4 4 re f|3 8 Dg|4 8 Dg|5 8 Dg|250 g 0 0 8 4 re f", 2);
        Check.due("through five layers", x.pixel(1, 0), 125);
        Check.due("painted over", x.pixel(0, 0), 0);
        Check.due("painted over by", x.by(0, 0), 64 + 10);
    }

    private static void groupClips() {
        Check.sentence("Dg: At the end of the stream .. each pixel that has a colour c there (whatever the clip is then)");
        Check.rows("1 8 Dg 12 0 4 4 re f|200 g 0 0 8 4 re f 4 0 4 4 re W", 11);
        Check.rows("0 0 4 4 re W 1 8 Dg|200 g 0 0 8 4 re f", 1);
        Check.rows("1 8 Dg|200 g 0 0 8 4 re f q q W", 3);
    }

    private static void groupsAtFaults() {
        Check.sentence("(At a fault all layers but the page go without that.)");
        PageRenderer x = Check.outcome(NEST, 64 + 7, 7, "0 0 4 4 re f 1 16 Dg", "4 0 4 4 re f n Q");
        Check.due("the page stays and the layer goes", x.row(0), 1);
        Check.due("no painter from it", x.by(1, 0), -1);
        x = Check.outcome(NEST, 64 + 3, 5, "1 16 Dg", "2 16 Dg Q", "4 0 4 4 re f");
        Check.due("what was mixed into the layer goes with it", x.count(0), 192);
        x = Check.outcome(NEST, 5 * 64 + 6, 8, "1 9 Dg", "2 9 Dg", "3 9 Dg", "4 9 Dg", "5 9 Dg", "4 0 4 4 re f Q");
        Check.due("five layers go", x.count(0), 192);
        x = Check.outcome(NEST, 3, 4, "1 16 Dg Q", "4 0 4 4 re f");
        Check.due("what was mixed into the page stays", x.row(0), 2);
        x = Check.outcome(NEST, 64 + 6, 4, "1 16 Dg", "4 0 4 4 re f Q");
        Check.put(x, 0, "1 Do");
        Check.put(x, 1, "4 0 4 4 re f");
        Check.due("render after a fault", x.render(), OK);
        Check.due("paints on the page", x.row(0), 2);
    }

    private static void wholePage() {
        Check.sentence("7: Makes all pixels 0 and executes stream 0");
        PageRenderer x = Check.document("9 g " + ALL, ALL);
        Check.put(x, 0, "0 0 4 4 re f");
        Check.due("renderAt(2)", x.renderAt(2), OK);
        Check.due("count(9)", x.count(9), 192);
        Check.due("render", x.render(), OK);
        Check.due("count(0)", x.count(0), 191);
        Check.due("by(1, 0)", x.by(1, 0), -1);
        Check.due("by(0, 0)", x.by(0, 0), 5);
        Check.due("commit", x.commit(0), true);
        Check.due("the page stays until the next rendering", x.count(0), 191);
        Check.due("render of an empty stream", x.render(), OK);
        Check.due("count(0) then", x.count(0), 192);
        Check.due("by(0, 0) then", x.by(0, 0), -1);
    }

    private static void pixelsOutside() {
        Check.sentence("11: -1 if i is outside 0..15 or j outside 0..11");
        PageRenderer x = Check.rows("7 g " + ALL, rowsOf(65535));
        for (int[] place : OUTSIDE) {
            Check.due("pixel(" + place[0] + ", " + place[1] + ")", x.pixel(place[0], place[1]), -1);
            Check.due("pixel of a new object", new PageRenderer().pixel(place[0], place[1]), -1);
        }
        Check.due("pixel(0, 0)", x.pixel(0, 0), 7);
        Check.due("pixel(15, 0)", x.pixel(15, 0), 7);
        Check.due("pixel(0, 11)", x.pixel(0, 11), 7);
        Check.due("pixel(15, 11)", x.pixel(15, 11), 7);
    }

    private static void painters() {
        Check.sentence("12: The operator (f, F or S) that painted the colour that the pixel has now: 64 * stream + its token");
        PageRenderer x = Check.rows("0 0 4 4 re f 4 0 4 4 re F 1 w 9 2 m 12 2 l S n 8 0 m 0 4 l n", 7);
        Check.due("by f", x.by(0, 0), 5);
        Check.due("by F", x.by(1, 0), 11);
        Check.due("by S", x.by(2, 0), 20);
        Check.due("by none", x.by(3, 0), -1);
        x = Check.rows("0 0 8 4 re f 0 g 0 0 4 4 re f", 2);
        Check.due("0 was painted", x.by(0, 0), 13);
        x = Check.rows("0 0 8 4 re f 0 0 4 4 re f", 3);
        Check.due("the same colour again", x.by(0, 0), 11);
        x = Check.rows("f|", 0);
        Check.due("an operator that paints nothing", x.by(0, 0), -1);
        x = Check.rows("0 0 4 4 re f 4 0 4 4 re W " + ALL, 3);
        Check.due("out of the clip", x.by(0, 0), 5);
        x = Check.document("5 Do", "", "", "", "", Check.times(34, "n") + "0 0 4 4 re f");
        Check.due("render", x.render(), OK);
        Check.due("the last place of the last stream", x.by(0, 0), 5 * 64 + 39);
    }

    private static void mixedPainters() {
        Check.sentence("12: or that was mixed into it last");
        PageRenderer x = Check.rows("200 g 0 0 8 4 re f 1 8 Dg|9 g 4 0 8 4 re f", 7);
        Check.due("not mixed", x.by(0, 0), 7);
        Check.due("mixed", x.by(1, 0), 64 + 7);
        Check.due("mixed with the page's 0", x.by(2, 0), 64 + 7);
        x = Check.rows("200 g 0 0 8 4 re f 1 0 Dg|9 g 4 0 8 4 re f", 3);
        Check.due("with a share of 0", x.by(1, 0), 64 + 7);
        Check.due("with a share of 0 into 0", x.by(2, 0), 64 + 7);
        x = Check.rows("100 g 0 0 8 4 re f 1 4 Dg|0 0 8 4 re f 200 g 0 0 4 4 re f", 3);
        Check.due("the last one of the group", x.by(0, 0), 64 + 13);
        Check.due("the one that painted there", x.by(1, 0), 64 + 5);
        x = Check.rows("1 8 Dg|40 g 0 0 8 4 re f 2 8 Dg|100 g 0 0 4 4 re f", 3);
        Check.due("mixed twice", x.by(0, 0), 128 + 7);
        Check.due("mixed once", x.by(1, 0), 64 + 7);
        x = Check.rows("1 8 Dg 9 g 0 0 4 4 re f|200 g 0 0 8 4 re f", 3);
        Check.due("painted over", x.by(0, 0), 10);
    }

    private static void paintersOutside() {
        Check.sentence("12: -1 if there was none, or i or j is outside");
        PageRenderer x = Check.rows("7 g " + ALL, rowsOf(65535));
        for (int[] place : OUTSIDE) {
            Check.due("by(" + place[0] + ", " + place[1] + ")", x.by(place[0], place[1]), -1);
        }
        Check.due("by(0, 0)", x.by(0, 0), 7);
        Check.due("by(15, 0)", x.by(15, 0), 7);
        Check.due("by(0, 11)", x.by(0, 11), 7);
        Check.due("by(15, 11)", x.by(15, 11), 7);
        Check.due("renderAt(0)", x.renderAt(0), OK);
        Check.due("by(0, 0) of nothing", x.by(0, 0), -1);
        Check.due("by(15, 11) of nothing", x.by(15, 11), -1);
        Check.due("by(0, 0) of a new object", new PageRenderer().by(0, 0), -1);
    }

    private static void counts() {
        Check.sentence("13: How many of the pixels have colour c");
        PageRenderer x = Check.rows("0 0 8 4 re f 255 g 8 0 4 4 re f 0 g 0 0 4 4 re f", 6);
        int[][] due = {
            {0, 190}, {1, 1}, {255, 1}, {2, 0}, {-1, 0}, {256, 0}, {Integer.MIN_VALUE, 0}, {Integer.MAX_VALUE, 0}
        };
        for (int[] pair : due) {
            Check.due("count(" + pair[0] + ")", x.count(pair[0]), pair[1]);
        }
        x = Check.outcome(NEST, 64 + 6, 4, "1 8 Dg", "0 0 4 4 re f Q");
        Check.due("count(-1) after a fault in a group", x.count(-1), 0);
        Check.due("count(0) after a fault in a group", x.count(0), 192);
        x = Check.rows(ALL, rowsOf(65535));
        Check.due("count(1) of the whole page", x.count(1), 192);
        Check.due("count(0) of the whole page", x.count(0), 0);
    }

    private static void rowsOfBits() {
        Check.sentence("14: the sum over i of 2 to the power i for the pixels that are not 0");
        for (int i = 0; i < 16; i++) {
            Check.rows(4 * i + " 0 4 4 re f", 1 << i);
        }
        Check.rows("0 0 64 4 re f", 65535);
        Check.rows("200 g 0 44 64 4 re f", 0, 0, 0, 0, 0, 0, 0, 0, 0, 0, 0, 65535);
        Check.rows("0 0 64 4 re f 0 g 4 0 4 4 re f", 65533);
    }

    private static void rowsOutside() {
        Check.sentence("14: -1 if j is outside 0..11");
        PageRenderer x = Check.rows(ALL, rowsOf(65535));
        for (int j : new int[] {-1, 12, 16, Integer.MIN_VALUE, Integer.MAX_VALUE, 1 << 28}) {
            Check.due("row(" + j + ")", x.row(j), -1);
            Check.due("row(" + j + ") of a new object", new PageRenderer().row(j), -1);
        }
        Check.due("row(0)", x.row(0), 65535);
        Check.due("row(11)", x.row(11), 65535);
    }
}
