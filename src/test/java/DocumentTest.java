/** Promises 1 to 6: the new object, the draft, the revisions and the streams; renderAt over them. */
public final class DocumentTest {
    public static void main(String[] args) {
        newObject();
        tokens();
        wiping();
        commits();
        reverts();
        revisionsThatAreRendered();
        Check.finish("DocumentTest");
    }

    private static void newObject() {
        PageRenderer x = new PageRenderer();
        Check.due("new revert", x.revert(), -1);
        Check.due("new wipe", x.wipe(), 0);
        Check.due("new faultAt", x.faultAt(), -1);
        Check.due("new used", x.used(), 0);
        Check.due("new count(0)", x.count(0), 192);
        Check.due("new count(-1)", x.count(-1), 0);
        for (int s = 0; s < 6; s++) {
            Check.due("new size", x.size(s), 0);
        }
        for (int j = 0; j < 12; j++) {
            Check.due("new row", x.row(j), 0);
            for (int i = 0; i < 16; i++) {
                Check.due("new pixel", x.pixel(i, j), 0);
                Check.due("new by", x.by(i, j), -1);
            }
        }
        Check.due("new renderAt(1)", x.renderAt(1), -1);
        Check.due("new renderAt(0)", x.renderAt(0), 0);
    }

    private static void tokens() {
        PageRenderer x = new PageRenderer();
        int[] wrongKinds = {-1, 18, Integer.MIN_VALUE, Integer.MAX_VALUE};
        for (int kind : wrongKinds) {
            Check.due("token kind " + kind, x.token(kind, 0), false);
        }
        int[] wrongValues = {-1001, 1001, Integer.MIN_VALUE, Integer.MAX_VALUE};
        for (int value : wrongValues) {
            Check.due("token value " + value, x.token(0, value), false);
        }
        Check.due("nothing changed", x.wipe(), 0);
        Check.due("token value -1000", x.token(0, -1000), true);
        Check.due("token value 1000", x.token(0, 1000), true);
        for (int kind = 1; kind <= 17; kind++) {
            Check.due("value not looked at", x.token(kind, kind % 2 == 0 ? 5000 : -5000), true);
        }
        Check.due("all were taken", x.wipe(), 19);
        for (int n = 0; n < 40; n++) {
            Check.due("token number " + n, x.token(n % 18, 0), true);
        }
        Check.due("token number 40", x.token(0, 0), false);
        Check.due("full draft", x.wipe(), 40);
        Check.due("token after wipe", x.token(9, 0), true);
    }

    private static void wiping() {
        PageRenderer x = new PageRenderer();
        Check.draft(x, "1 2 m");
        Check.due("wipe", x.wipe(), 3);
        Check.due("wipe again", x.wipe(), 0);
        Check.put(x, 2, "n");
        Check.due("size after wipe", x.size(2), 1);
    }

    private static void commits() {
        PageRenderer x = new PageRenderer();
        Check.draft(x, "1 2 m");
        int[] wrongStreams = {-1, 6, Integer.MIN_VALUE, Integer.MAX_VALUE};
        for (int s : wrongStreams) {
            Check.due("commit(" + s + ")", x.commit(s), false);
            Check.due("size(" + s + ")", x.size(s), -1);
        }
        Check.due("no revision was made", x.revert(), -1);
        Check.due("commit(5)", x.commit(5), true);
        Check.due("size(5)", x.size(5), 3);
        Check.due("the draft is empty", x.wipe(), 0);
        Check.due("commit of the empty draft", x.commit(5), true);
        Check.due("size(5) then", x.size(5), 0);
        for (int n = 2; n < 8; n++) {
            Check.put(x, n - 2, Check.times(n, "n"));
        }
        Check.draft(x, "n");
        Check.due("ninth commit", x.commit(0), false);
        Check.due("the draft is kept", x.wipe(), 1);
        for (int n = 2; n < 8; n++) {
            Check.due("size(" + (n - 2) + ")", x.size(n - 2), n);
        }
        Check.due("revert of the eighth", x.revert(), 5);
        Check.due("commit after it", x.commit(4), true);
    }

    private static void reverts() {
        PageRenderer x = new PageRenderer();
        Check.put(x, 3, "n");
        Check.put(x, 3, "n n");
        Check.put(x, 1, "n n n");
        Check.put(x, 3, "n n n n");
        Check.draft(x, "n n n n n");
        Check.due("size(3)", x.size(3), 4);
        Check.due("revert", x.revert(), 3);
        Check.due("size(3)", x.size(3), 2);
        Check.due("size(1)", x.size(1), 3);
        Check.due("revert", x.revert(), 1);
        Check.due("size(1)", x.size(1), 0);
        Check.due("revert", x.revert(), 3);
        Check.due("size(3)", x.size(3), 1);
        Check.due("revert", x.revert(), 3);
        Check.due("size(3)", x.size(3), 0);
        Check.due("revert", x.revert(), -1);
        Check.due("the draft is not touched", x.wipe(), 5);
    }

    private static void revisionsThatAreRendered() {
        PageRenderer x = Check.document("1 Do", "0 0 8 4 re f");
        Check.put(x, 1, "2 g 0 0 16 4 re f");
        Check.put(x, 0, "Q");
        Check.due("render", x.render(), PageRenderer.NEST);
        Check.due("faultAt", x.faultAt(), 0);
        Check.due("renderAt(3)", x.renderAt(3), PageRenderer.OK);
        Check.due("count(2)", x.count(2), 4);
        Check.due("by(0, 0)", x.by(0, 0), 64 + 7);
        Check.due("renderAt(2)", x.renderAt(2), PageRenderer.OK);
        Check.due("count(1)", x.count(1), 2);
        Check.due("renderAt(5)", x.renderAt(5), -1);
        Check.due("renderAt(-1)", x.renderAt(-1), -1);
        Check.due("renderAt(max)", x.renderAt(Integer.MAX_VALUE), -1);
        Check.due("renderAt(min)", x.renderAt(Integer.MIN_VALUE), -1);
        Check.due("nothing changed: count", x.count(1), 2);
        Check.due("nothing changed: used", x.used(), 3);
        Check.due("renderAt(4)", x.renderAt(4), PageRenderer.NEST);
        Check.due("renderAt(6)", x.renderAt(6), -1);
        Check.due("nothing changed: faultAt", x.faultAt(), 0);
        Check.due("renderAt(1)", x.renderAt(1), PageRenderer.OK);
        Check.due("faultAt after OK", x.faultAt(), -1);
        Check.due("used", x.used(), 1);
        Check.due("renderAt(0)", x.renderAt(0), PageRenderer.OK);
        Check.due("used of nothing", x.used(), 0);
        Check.due("sizes are still the newest", x.size(0), 1);
        Check.due("revert after renderAt", x.revert(), 0);
        Check.due("render then", x.render(), PageRenderer.OK);
        Check.due("count(2) then", x.count(2), 4);
        Check.due("revert leaves the page", x.revert(), 1);
        Check.due("count(2) still", x.count(2), 4);
    }
}
