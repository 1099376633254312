/** Promises 7 and 11 to 14: what is painted, with which colour and by which operator. */
public final class PaintTest {
    public static void main(String[] args) {
        fills();
        edgesThroughPoints();
        parts();
        lines();
        clips();
        states();
        matrices();
        streams();
        groups();
        nestedGroups();
        groupsAtFaults();
        painters();
        renderingsBeginAnew();
        outside();
        Check.finish("PaintTest");
    }

    private static void fills() {
        Check.rows("4 4 24 16 re f", 0, 126, 126, 126, 126);
        Check.rows("4 4 24 16 re F", 0, 126, 126, 126, 126);
        Check.rows("28 20 -24 -16 re f", 0, 126, 126, 126, 126);
        Check.rows("-10 -10 100 100 re f", 65535, 65535, 65535, 65535, 65535, 65535, 65535, 65535, 65535, 65535,
            65535, 65535);
        Check.rows("2 2 1 1 re f", 1);
        Check.rows("3 2 1 1 re f");
        Check.rows("2 3 1 1 re f");
        // Two squares, one in the other, drawn the same way round and then the other way.
        Check.rows("0 0 20 20 re 4 4 12 12 re f", 31, 31, 31, 31, 31);
        Check.rows("0 0 20 20 re 4 4 12 12 re F", 31, 17, 17, 17, 31);
        Check.rows("0 0 20 20 re 16 4 -12 12 re f", 31, 17, 17, 17, 31);
        Check.rows("0 0 20 20 re 16 4 -12 12 re F", 31, 17, 17, 17, 31);
        Check.rows("0 0 8 4 re 0 0 8 4 re f", 3);
        Check.rows("0 0 8 4 re 0 0 8 4 re F");
        Check.rows("0 0 8 4 re 0 0 8 4 re 0 0 8 4 re F", 3);
        Check.rows("f F");
        Check.rows("0 0 m f");
        Check.rows("0 0 m 40 0 l 40 10 m f");
    }

    private static void edgesThroughPoints() {
        // At the height of row 0 the ends are at 2.5 and 34.5: points of pixels 0 and 8.
        Check.rows("5 0 m 0 5 l 64 5 l f", 510);
        Check.rows("5 0 m 64 5 l 0 5 l f", 510);
        Check.rows("0 0 m 5 5 l 0 5 l f", 1);
        Check.rows("0 0 m 5 5 l 5 0 l f");
    }

    private static void parts() {
        // Each part is closed to its own beginning, and a new part leaves the old one as it is.
        Check.rows("0 0 m 8 0 l 8 4 l 0 4 l 16 0 m 24 0 l 24 4 l 16 4 l f", 51);
        Check.rows("0 0 m 8 0 l 8 4 l 0 4 l 40 40 m f", 3);
        Check.rows("40 40 m 0 0 m 8 0 l 8 4 l 0 4 l f", 3);
        // After h the next edge goes on from the beginning: two triangles that share a corner.
        Check.rows("0 0 m 16 0 l 16 16 l h 16 16 l 0 16 l f", 15, 15, 15, 15);
        Check.rows("5 w 8 0 m 8 8 m 0 8 m S");
        Check.rows("0 w 40 40 m 45 40 l n 20 20 m 0 20 l 0 0 l h S", 1, 2, 4, 8, 16);
        Check.rows("0 w 40 40 m 45 40 l 20 20 m 0 20 l 0 0 l h S", 1, 2, 4, 8, 16);
        Check.rows("0 w 0 0 m 30 0 l h 20 20 l S", 1, 2, 4, 8, 16);
    }

    private static void lines() {
        Check.rows("5 w 0 0 m 0 20 l S", 1, 1, 1, 1, 1);
        Check.rows("4 w 0 0 m 0 20 l S");
        Check.rows("0 0 m 0 20 l S");
        Check.rows("1 0 m 1 20 l S", 1, 1, 1, 1, 1);
        Check.rows("0 w 0 0 m 20 20 l S", 1, 2, 4, 8, 16);
        Check.rows("0 w 20 20 m 0 0 l S", 1, 2, 4, 8, 16);
        Check.rows("0 w 0 0 m 2 2 l S");
        Check.rows("5 w 3 3 m h S", 1);
        Check.rows("5 w 3 3 m 3 3 l S", 1);
        Check.rows("5 w 3 3 m S");
        Check.rows("5 w 0 6 m 10 6 l S", 0, 7);
        Check.rows("60 w 1000 1000 m 1000 900 l S");
        Check.rows("60 w -28 2 m -28 3 l S");
        Check.rows("60 w -27 2 m -27 3 l S", 1, 1);
        // Parts stay open here, and the width is not a matter of the matrix.
        Check.rows("5 w 0 0 m 0 20 l 40 20 m S", 1, 1, 1, 1, 1);
        Check.rows("5 w 0 0 m 40 0 l 40 20 l S", 2047, 1536, 1536, 1536, 1536);
        Check.rows("2 0 0 2 0 0 cm 5 w 0 0 m 0 10 l S", 1, 1, 1, 1, 1);
        Check.rows("S");
    }

    private static void clips() {
        Check.rows("0 0 12 8 re W 4 4 40 40 re f", 0, 6);
        Check.rows("0 0 12 8 re V 4 4 40 40 re F", 0, 6);
        Check.rows("0 0 12 8 re W 4 0 40 40 re W 0 0 64 48 re f", 6, 6);
        Check.rows("0 0 20 20 re 4 4 12 12 re V 0 0 64 48 re f", 31, 17, 17, 17, 31);
        Check.rows("0 0 20 20 re 4 4 12 12 re W 0 0 64 48 re f", 31, 31, 31, 31, 31);
        Check.rows("0 0 8 8 re W 60 w 0 0 m 60 0 l S", 3, 3);
        Check.rows("W 0 0 64 48 re f");
        Check.rows("q V Q 0 0 8 4 re f", 3);
        Check.rows("q 0 0 4 4 re W q 4 4 4 4 re W Q 0 0 64 48 re f", 1);
        Check.rows("1 Do 0 0 8 4 re f|0 0 4 4 re W", 3);
        Check.rows("0 0 4 4 re W 1 Do|0 0 64 48 re f", 1);
        PageRenderer x = Check.document("0 0 4 4 re W");
        Check.put(x, 0, "0 0 8 4 re f");
        Check.due("renderAt(1)", x.renderAt(1), PageRenderer.OK);
        Check.due("render", x.render(), PageRenderer.OK);
        Check.due("the clip is whole at first", x.row(0), 3);
    }

    private static void states() {
        PageRenderer x = Check.rows("q 7 g 5 w 1 0 0 1 8 0 cm Q 0 0 4 4 re f 0 10 m 0 30 l S", 1);
        Check.due("colour at first", x.count(1), 1);
        x = Check.rows("q 7 g 5 w 1 0 0 1 8 0 cm 0 0 4 4 re f 0 10 m 0 20 l S", 4, 0, 6, 6, 6);
        Check.due("colour of g", x.count(7), 7);
        x = Check.rows("0 0 8 4 re q 3 g Q f", 3);
        Check.due("the path is not touched", x.count(1), 2);
        Check.rows("0 0 8 4 re 1 0 0 1 16 16 cm 4 4 m f", 3);
    }

    private static void matrices() {
        Check.rows("1 0 0 1 8 0 cm 2 0 0 2 0 0 cm 0 0 4 4 re f", 12, 12);
        Check.rows("2 0 0 2 0 0 cm 1 0 0 1 8 0 cm 0 0 4 4 re f", 48, 48);
        Check.rows("0 1 -1 0 32 0 cm 0 0 8 12 re f", 224, 224);
        Check.rows("0 1 -1 0 32 0 cm 2 0 0 1 4 8 cm 0 0 4 4 re f", 0, 32, 32);
        Check.rows("1 0 2 1 0 0 cm 0 0 8 8 re f", 6, 24);
        Check.rows("1 2 0 1 0 0 cm 0 0 8 8 re f", 0, 1, 1, 2, 2);
        Check.rows("3 0 0 3 0 0 cm 0 0 0 0 4 4 cm 0 0 9 9 re f");
    }

    private static void streams() {
        PageRenderer x = Check.rows("9 g 1 0 0 1 8 4 cm 1 Do 0 0 4 4 re f|0 0 8 4 re F 2 g 0 4 4 4 re f 50 w q q 4 0 0 4 0 0 cm",
            0, 12, 4);
        Check.due("the state goes in and comes back: 9", x.count(9), 2);
        Check.due("inner colour", x.pixel(2, 2), 2);
        Check.due("painted after", x.by(2, 1), 16);
        Check.due("painted inside", x.by(3, 1), 64 + 5);
        Check.rows("1 Do 1 Do|0 0 8 4 re f", 3);
        Check.rows("0 0 8 4 re 1 Do f|");
        Check.rows("1 Do f|0 0 8 4 re");
        Check.rows("3 Do");
        PageRenderer y = Check.rows("0 0 4 4 re f|4 0 4 4 re f", 1);
        Check.due("again", y.render(), PageRenderer.OK);
        Check.due("the same", y.row(0), 1);
    }

    private static void groups() {
        PageRenderer x = Check.rows("200 g 0 0 8 4 re f 1 8 Dg|9 g 4 0 8 4 re f", 7);
        Check.due("left alone", x.pixel(0, 0), 200);
        Check.due("half of both, rounded down", x.pixel(1, 0), 104);
        Check.due("half with the page's 0", x.pixel(2, 0), 4);
        Check.due("by below", x.by(0, 0), 7);
        Check.due("by mixed", x.by(1, 0), 64 + 7);
        x = Check.rows("200 g 0 0 8 4 re f 1 0 Dg|9 g 4 0 8 4 re f", 3);
        Check.due("a = 0", x.pixel(1, 0), 200);
        Check.due("a = 0 on the page's 0", x.pixel(2, 0), 0);
        Check.due("a = 0 is mixed in too", x.by(1, 0), 64 + 7);
        Check.due("a = 0 is mixed into 0 too", x.by(2, 0), 64 + 7);
        x = Check.rows("200 g 0 0 8 4 re f 1 16 Dg|9 g 4 0 8 4 re f", 7);
        Check.due("a = 16", x.pixel(1, 0), 9);
        x = Check.rows("100 g 0 0 8 4 re f 1 8 Dg|0 g 4 0 8 4 re f", 3);
        Check.due("0 is a colour", x.pixel(1, 0), 50);
        Check.due("0 is a colour on 0", x.by(2, 0), 64 + 7);
        x = Check.rows("100 g 0 0 8 4 re f 1 4 Dg|0 0 8 4 re f 200 g 0 0 4 4 re f", 3);
        Check.due("the group is one picture", x.pixel(0, 0), 125);
        Check.due("by the last one of it", x.by(0, 0), 64 + 13);
        Check.due("the rest of it", x.pixel(1, 0), 100);
        // The clip of the group is no matter when it is mixed, and it is gone after it.
        Check.rows("1 8 Dg 12 0 4 4 re f|200 g 0 0 8 4 re f 4 0 4 4 re W", 11);
        Check.rows("0 0 4 4 re W 1 8 Dg|200 g 0 0 8 4 re f", 1);
        x = Check.rows("255 g 0 0 4 4 re f 1 15 Dg|255 g 0 0 4 4 re f", 1);
        Check.due("255 stays 255", x.pixel(0, 0), 255);
    }

    private static void nestedGroups() {
        PageRenderer x = Check.rows("1 16 Dg|2 8 Dg|100 g 0 0 4 4 re f", 1);
        Check.due("nothing below: the colour itself", x.pixel(0, 0), 100);
        Check.due("by", x.by(0, 0), 128 + 7);
        x = Check.rows("1 8 Dg|2 8 Dg|100 g 0 0 4 4 re f", 1);
        Check.due("mixed with the page alone", x.pixel(0, 0), 50);
        x = Check.rows("1 8 Dg|40 g 0 0 8 4 re f 2 8 Dg|100 g 0 0 4 4 re f", 3);
        Check.due("mixed twice", x.pixel(0, 0), 35);
        Check.due("mixed once", x.pixel(1, 0), 20);
        Check.due("by twice", x.by(0, 0), 128 + 7);
        Check.due("by once", x.by(1, 0), 64 + 7);
        x = Check.rows("1 8 Dg|2 Do|100 g 0 0 4 4 re f", 1);
        Check.due("Do paints on the layer that is there", x.pixel(0, 0), 50);
        x = Check.rows("1 8 Dg 1 8 Dg|100 g 0 0 4 4 re f", 1);
        Check.due("a new layer has nothing on it", x.pixel(0, 0), 75);
        x = Check.rows("1 16 Dg|2 16 Dg 3 16 Dg|7 g 0 0 4 4 re f|0 0 4 4 re W", 1);
        Check.due("a group without paint", x.pixel(0, 0), 7);
        x = Check.rows("1 8 Dg|2 8 Dg 1 g 0 0 4 4 re f|3 8 Dg|4 8 Dg|5 8 Dg|250 g 0 0 8 4 re f", 2);
        Check.due("five layers", x.pixel(1, 0), 125);
        Check.due("painted over", x.pixel(0, 0), 0);
        Check.due("painted over by", x.by(0, 0), 64 + 10);
    }

    private static void groupsAtFaults() {
        PageRenderer x = Check.outcome(PageRenderer.NEST, 64 + 7, 7, "0 0 4 4 re f 1 16 Dg", "4 0 4 4 re f n Q");
        Check.due("the page stays and the layer goes", x.row(0), 1);
        Check.due("no painter from it", x.by(1, 0), -1);
        x = Check.outcome(PageRenderer.NEST, 64 + 3, 5, "1 16 Dg", "2 16 Dg Q", "4 0 4 4 re f");
        Check.due("what was mixed into the layer goes with it", x.count(0), 192);
        x = Check.outcome(PageRenderer.NEST, 3, 4, "1 16 Dg Q", "4 0 4 4 re f");
        Check.due("what was mixed into the page stays", x.row(0), 2);
        Check.put(x, 0, "1 Do");
        Check.due("render after a fault", x.render(), PageRenderer.OK);
        Check.due("paints on the page", x.row(0), 2);
    }

    private static void painters() {
        PageRenderer x = Check.rows("0 0 4 4 re f 4 0 4 4 re F 1 w 9 2 m 12 2 l S n 8 0 m 0 4 l n", 7);
        Check.due("by f", x.by(0, 0), 5);
        Check.due("by F", x.by(1, 0), 11);
        Check.due("by S", x.by(2, 0), 20);
        x = Check.rows("0 0 8 4 re f 0 g 0 0 4 4 re f", 2);
        Check.due("0 was painted", x.by(0, 0), 13);
        Check.due("its colour", x.pixel(0, 0), 0);
        Check.due("count(0)", x.count(0), 191);
        Check.due("count(1)", x.count(1), 1);
        Check.due("count(-1)", x.count(-1), 0);
        Check.due("count(256)", x.count(256), 0);
        x = Check.rows("0 0 8 4 re f 0 0 4 4 re f", 3);
        Check.due("the same colour again", x.by(0, 0), 11);
        x = Check.document("", "", "", "", "", Check.times(35, "n") + "0 0 4 4 re");
        Check.put(x, 0, "5 Do 4 Do");
        Check.put(x, 4, Check.times(34, "n") + "0 0 4 4 re f");
        Check.due("render", x.render(), PageRenderer.OK);
        Check.due("the last place", x.by(0, 0), 4 * 64 + 39);
    }

    private static void renderingsBeginAnew() {
        String[] leftovers = {
            "q q q q q q", "q 9 g q 4 0 0 4 0 0 cm", "9 g 50 w", "1 0 0 1 9 9 cm", "W", "q V q", "0 0 64 48 re",
            "16 16 m", "1 2 3", "1 9 Dg", "Q", "7 g 0 0 64 48 re f", "q 2 Do"
        };
        for (String leftover : leftovers) {
            PageRenderer x = Check.document(leftover, "q q 9 g Q 1 0 0 1 9 9 cm 0 0 64 48 re Q Q", "W q q 3 3 m");
            Check.put(x, 0, "f 0 0 8 4 re f 2 8 m 2 20 l S q q q q q q");
            x.renderAt(3);
            Check.due("render after " + leftover, x.render(), PageRenderer.OK);
            Check.due("row 0 after " + leftover, x.row(0), 3);
            Check.due("row 1 after " + leftover, x.row(1), 1);
            Check.due("row 5 after " + leftover, x.row(5), 0);
            Check.due("count(1) after " + leftover, x.count(1), 6);
            Check.put(x, 0, "2 2 l");
            Check.due("no point after " + leftover, x.render(), PageRenderer.NOPOINT);
        }
    }

    private static void outside() {
        PageRenderer x = Check.rows("0 0 64 48 re f", 65535, 65535, 65535, 65535, 65535, 65535, 65535, 65535, 65535,
            65535, 65535, 65535);
        int[][] places = {
            {-1, 0}, {16, 0}, {0, -1}, {0, 12}, {Integer.MIN_VALUE, 0}, {Integer.MAX_VALUE, 0}, {0, Integer.MIN_VALUE},
            {0, Integer.MAX_VALUE}, {-1, 1}, {16, 11}
        };
        for (int[] place : places) {
            Check.due("pixel outside", x.pixel(place[0], place[1]), -1);
            Check.due("by outside", x.by(place[0], place[1]), -1);
        }
        Check.due("pixel(15, 11)", x.pixel(15, 11), 1);
        Check.due("by(15, 11)", x.by(15, 11), 5);
        Check.due("row(-1)", x.row(-1), -1);
        Check.due("row(12)", x.row(12), -1);
        Check.due("row(max)", x.row(Integer.MAX_VALUE), -1);
        Check.due("row(min)", x.row(Integer.MIN_VALUE), -1);
        Check.due("count(1)", x.count(1), 192);
    }
}
