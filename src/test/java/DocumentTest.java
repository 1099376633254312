/** DOCUMENT, TOKENS and promises 1 to 6 and 8, sentence by sentence. */
public final class DocumentTest {
    private static final int OK = PageRenderer.OK, NEST = PageRenderer.NEST;
    private static final int[] NO_STREAMS = {-1, 6, 64, Integer.MIN_VALUE, Integer.MAX_VALUE};

    public static void main(String[] args) {
        newRevisions();
        newDraft();
        newPixels();
        tokensAppended();
        tokenKinds();
        tokenValues();
        tokenValuesNotLookedAt();
        tokensInFullDraft();
        wipes();
        commits();
        commitsEmptyTheDraft();
        commitsOutside();
        commitsWhenFull();
        revertsTakeBack();
        revertsAnswer();
        revertsOfNothing();
        sizes();
        sizesOutside();
        renderedRevisions();
        renderedRevisionsOutside();
        lastCalls();
        Check.finish("DocumentTest");
    }

    private static void newRevisions() {
        Check.sentence("1: No revisions");
        Check.due("revert", new PageRenderer().revert(), -1);
        Check.due("renderAt(1)", new PageRenderer().renderAt(1), -1);
        Check.due("renderAt(0)", new PageRenderer().renderAt(0), OK);
        for (int s = 0; s < 6; s++) {
            Check.due("size(" + s + ")", new PageRenderer().size(s), 0);
        }
    }

    private static void newDraft() {
        Check.sentence("1: an empty draft");
        Check.due("wipe", new PageRenderer().wipe(), 0);
        PageRenderer x = new PageRenderer();
        Check.due("commit", x.commit(0), true);
        Check.due("size(0)", x.size(0), 0);
        Check.draft(new PageRenderer(), Check.times(40, "n"));
    }

    private static void newPixels() {
        Check.sentence("1: all pixels are 0");
        PageRenderer x = new PageRenderer();
        Check.due("count(0)", x.count(0), 192);
        Check.due("count(-1)", x.count(-1), 0);
        for (int j = 0; j < 12; j++) {
            Check.due("row(" + j + ")", x.row(j), 0);
            for (int i = 0; i < 16; i++) {
                Check.due("pixel", x.pixel(i, j), 0);
                Check.due("by", x.by(i, j), -1);
            }
        }
    }

    private static void tokensAppended() {
        Check.sentence("2: Appends a token to the draft");
        PageRenderer x = new PageRenderer();
        for (int n = 1; n <= 40; n++) {
            Check.due("token", x.token(n % 18, n), true);
            Check.due("wipe", x.wipe(), 1);
        }
        // In another order these would be a fault or another square.
        Check.rows("4 8 12 16 re f", 0, 0, 14, 14, 14, 14);
    }

    private static void tokenKinds() {
        Check.sentence("2: False, changing nothing, if kind is outside 0..17");
        PageRenderer x = new PageRenderer();
        Check.draft(x, "0 0 4 4 re");
        for (int kind : new int[] {-1, 18, 255, Integer.MIN_VALUE, Integer.MAX_VALUE}) {
            Check.due("token(" + kind + ", 0)", x.token(kind, 0), false);
        }
        Check.draft(x, "f");
        Check.due("commit", x.commit(0), true);
        Check.due("size(0)", x.size(0), 6);
        Check.due("render", x.render(), OK);
        Check.due("row(0)", x.row(0), 1);
        for (int kind = 0; kind <= 17; kind++) {
            Check.due("token(" + kind + ", 0)", x.token(kind, 0), true);
        }
        Check.due("wipe", x.wipe(), 18);
    }

    private static void tokenValues() {
        Check.sentence("2: or a value that is looked at is outside its range");
        PageRenderer x = new PageRenderer();
        Check.draft(x, "n");
        for (int value : new int[] {-1001, 1001, Integer.MIN_VALUE, Integer.MAX_VALUE}) {
            Check.due("token(0, " + value + ")", x.token(0, value), false);
        }
        Check.due("wipe", x.wipe(), 1);
        for (int value : new int[] {-1000, -999, 0, 999, 1000}) {
            Check.due("token(0, " + value + ")", x.token(0, value), true);
        }
        Check.due("wipe then", x.wipe(), 5);
        // The greatest values come through as they are: the points lie just at the limit, or beyond it.
        Check.outcome(OK, -1, 3, "4 0 0 4 0 0 cm 1000 1000 m -1000 -1000 m");
        Check.outcome(PageRenderer.RANGE, 9, 2, "4 0 0 4 1 0 cm 1000 0 m");
        Check.outcome(PageRenderer.RANGE, 9, 2, "4 0 0 4 0 -1 cm 0 -1000 m");
    }

    private static void tokenValuesNotLookedAt() {
        Check.sentence("TOKENS: for 0 a value -1000..1000 (not looked at for others)");
        for (int value : new int[] {-1001, 1001, 5, Integer.MIN_VALUE, Integer.MAX_VALUE}) {
            PageRenderer x = new PageRenderer();
            for (int kind = 1; kind <= 17; kind++) {
                Check.due("token(" + kind + ", " + value + ")", x.token(kind, value), true);
            }
            Check.due("wipe", x.wipe(), 17);
            Check.draft(x, "0 0 4 4");
            x.token(4, value);
            x.token(5, value);
            x.commit(0);
            Check.due("render with " + value, x.render(), OK);
            Check.due("row(0) with " + value, x.row(0), 1);
            Check.due("by(0, 0) with " + value, x.by(0, 0), 5);
        }
    }

    private static void tokensInFullDraft() {
        Check.sentence("2: or the draft has 40 tokens");
        PageRenderer x = new PageRenderer();
        Check.draft(x, Check.times(39, "n") + "Q");
        for (int kind = 0; kind <= 17; kind++) {
            Check.due("token number 40", x.token(kind, 0), false);
        }
        Check.due("commit", x.commit(0), true);
        Check.due("size(0)", x.size(0), 40);
        Check.due("render", x.render(), NEST);
        Check.due("the last one is executed", x.faultAt(), 39);
        Check.draft(x, Check.times(40, "n"));
        Check.due("token number 40 again", x.token(9, 0), false);
        Check.due("wipe", x.wipe(), 40);
        Check.due("token after wipe", x.token(9, 0), true);
    }

    private static void wipes() {
        Check.sentence("3: Empties the draft; answers how many tokens it had");
        PageRenderer x = Check.document("0 0 4 4 re f");
        Check.due("render", x.render(), OK);
        Check.due("wipe of nothing", x.wipe(), 0);
        Check.draft(x, "1 2 m");
        Check.due("wipe of 3", x.wipe(), 3);
        Check.due("wipe again", x.wipe(), 0);
        Check.draft(x, Check.times(40, "n"));
        Check.due("wipe of 40", x.wipe(), 40);
        Check.due("the stream stays", x.size(0), 6);
        Check.due("the page stays", x.row(0), 1);
        Check.put(x, 2, "n");
        Check.due("no wiped token comes back", x.size(2), 1);
    }

    private static void commits() {
        Check.sentence("4: Makes the draft the content of stream s");
        PageRenderer x = new PageRenderer();
        for (int s = 0; s < 6; s++) {
            Check.put(x, s, Check.times(s + 1, "n"));
        }
        for (int s = 0; s < 6; s++) {
            Check.due("size(" + s + ")", x.size(s), s + 1);
        }
        Check.put(x, 5, "n n");
        Check.due("a new content takes the old one's place", x.size(5), 2);
        Check.due("commit of the empty draft", x.commit(4), true);
        Check.due("it is a revision", x.revert(), 4);
        Check.due("it was empty", x.size(4), 5);
    }

    private static void commitsEmptyTheDraft() {
        Check.sentence("4: and empties it");
        PageRenderer x = new PageRenderer();
        Check.put(x, 0, Check.times(40, "n"));
        Check.due("wipe", x.wipe(), 0);
        Check.draft(x, Check.times(40, "n"));
        Check.due("commit", x.commit(0), true);
        Check.put(x, 1, "n");
        Check.due("size(1)", x.size(1), 1);
        Check.due("commit of nothing", x.commit(1), true);
        Check.due("size(1) then", x.size(1), 0);
    }

    private static void commitsOutside() {
        Check.sentence("4: False, changing nothing, if s is outside 0..5");
        PageRenderer x = new PageRenderer();
        Check.draft(x, "1 2 m");
        for (int s : NO_STREAMS) {
            Check.due("commit(" + s + ")", x.commit(s), false);
        }
        for (int s = 0; s < 6; s++) {
            Check.due("size(" + s + ")", x.size(s), 0);
        }
        Check.due("no revision was made", x.revert(), -1);
        Check.due("commit(5)", x.commit(5), true);
        Check.due("the draft was kept", x.size(5), 3);
    }

    private static void commitsWhenFull() {
        Check.sentence("4: False, changing nothing, if 8 revisions are there");
        PageRenderer x = new PageRenderer();
        for (int n = 0; n < 8; n++) {
            Check.put(x, n % 6, Check.times(n + 1, "n"));
        }
        Check.due("commit of the empty draft", x.commit(3), false);
        Check.draft(x, Check.times(20, "n"));
        for (int s = -1; s <= 6; s++) {
            Check.due("ninth commit, of " + s, x.commit(s), false);
        }
        for (int s = 0; s < 6; s++) {
            Check.due("size(" + s + ")", x.size(s), s < 2 ? s + 7 : s + 1);
        }
        Check.due("renderAt(9)", x.renderAt(9), -1);
        Check.due("renderAt(8)", x.renderAt(8), OK);
        Check.due("revert of the eighth", x.revert(), 1);
        Check.due("commit after it", x.commit(4), true);
        Check.due("the draft was kept", x.size(4), 20);
        Check.due("there are 8 again", x.commit(4), false);
    }

    private static void revertsTakeBack() {
        Check.sentence("5: Takes the newest revision back; its stream has the content again that it had before it");
        PageRenderer x = new PageRenderer();
        Check.put(x, 0, "0 0 4 4 re f");
        Check.put(x, 3, "n n n");
        Check.put(x, 0, "0 0 8 4 re f n");
        Check.put(x, 3, "n");
        Check.put(x, 0, "Q");
        Check.draft(x, "n n n n n");
        Check.due("render", x.render(), NEST);
        Check.due("revert", x.revert(), 0);
        Check.due("faultAt stays", x.faultAt(), 0);
        Check.due("used stays", x.used(), 1);
        Check.due("size(0)", x.size(0), 7);
        Check.due("render then", x.render(), OK);
        Check.due("row(0) then", x.row(0), 3);
        Check.due("revert", x.revert(), 3);
        Check.due("size(3)", x.size(3), 3);
        Check.due("size(0) still", x.size(0), 7);
        Check.due("revert", x.revert(), 0);
        Check.due("the page stays", x.row(0), 3);
        Check.due("render of the first", x.render(), OK);
        Check.due("row(0) of the first", x.row(0), 1);
        Check.due("revert", x.revert(), 3);
        Check.due("size(3) at first", x.size(3), 0);
        Check.due("revert", x.revert(), 0);
        Check.due("size(0) at first", x.size(0), 0);
        Check.due("render of nothing", x.render(), OK);
        Check.due("row(0) of nothing", x.row(0), 0);
        Check.due("the draft is not touched", x.wipe(), 5);
    }

    private static void revertsAnswer() {
        Check.sentence("5: answers its stream");
        PageRenderer x = new PageRenderer();
        int[] streams = {4, 0, 5, 5, 1, 2, 3, 0};
        for (int s : streams) {
            Check.put(x, s, "n");
        }
        for (int n = 7; n >= 0; n--) {
            Check.due("revert number " + n, x.revert(), streams[n]);
        }
    }

    private static void revertsOfNothing() {
        Check.sentence("5: -1 if there is none");
        PageRenderer x = new PageRenderer();
        Check.due("revert", x.revert(), -1);
        Check.put(x, 5, "n");
        Check.due("revert of the only one", x.revert(), 5);
        for (int n = 0; n < 3; n++) {
            Check.due("revert of none", x.revert(), -1);
        }
        for (int n = 0; n < 8; n++) {
            Check.put(x, 1, "n");
        }
        Check.due("just 8 have room", x.commit(1), false);
        Check.due("revert again", x.revert(), 1);
    }

    private static void sizes() {
        Check.sentence("6: The number of tokens of stream s");
        PageRenderer x = new PageRenderer();
        for (int s = 0; s < 6; s++) {
            Check.due("size(" + s + ")", x.size(s), 0);
        }
        Check.put(x, 0, "7");
        Check.put(x, 5, Check.times(40, "n"));
        Check.draft(x, "n n");
        Check.due("size(0)", x.size(0), 1);
        Check.due("size(5)", x.size(5), 40);
        Check.due("size(1)", x.size(1), 0);
    }

    private static void sizesOutside() {
        Check.sentence("6: -1 if s is outside 0..5");
        PageRenderer x = Check.document("n", "n", "n", "n", "n", "n");
        for (int s : NO_STREAMS) {
            Check.due("size(" + s + ")", x.size(s), -1);
        }
    }

    private static void renderedRevisions() {
        Check.sentence("8: As render, but as if just the first k revisions were there");
        PageRenderer x = Check.document("1 Do", "0 0 8 4 re f");
        Check.put(x, 1, "2 g 0 0 16 4 re f");
        Check.put(x, 0, "Q");
        int[] faults = {OK, OK, OK, OK, NEST};
        int[] used = {0, 1, 3, 4, 1};
        int[] rows = {0, 0, 3, 15, 0};
        for (int round = 0; round < 2; round++) {
            for (int k = 4; k >= 0; k--) {
                Check.due("renderAt(" + k + ")", x.renderAt(k), faults[k]);
                Check.due("faultAt of " + k, x.faultAt(), k == 4 ? 0 : -1);
                Check.due("used of " + k, x.used(), used[k]);
                Check.due("row(0) of " + k, x.row(0), rows[k]);
                Check.due("by(0, 0) of " + k, x.by(0, 0), k == 2 ? 64 + 5 : k == 3 ? 64 + 7 : -1);
            }
        }
        Check.due("the sizes are the newest", x.size(0), 1);
        Check.due("render is of all of them", x.render(), NEST);
        Check.due("revert is of the newest", x.revert(), 0);
        Check.put(x, 1, "");
        Check.due("renderAt(4) after another commit", x.renderAt(4), OK);
        Check.due("row(0) after it", x.row(0), 0);
        Check.due("renderAt(3) after it", x.renderAt(3), OK);
        Check.due("row(0) of 3 after it", x.row(0), 15);
    }

    private static void renderedRevisionsOutside() {
        Check.sentence("8: -1, and nothing changes, if k is outside 0.. the number of revisions");
        PageRenderer x = Check.document("0 0 8 4 re f Q");
        Check.put(x, 0, "0 0 4 4 re f");
        Check.due("revert", x.revert(), 0);
        int[] wrong = {-1, 2, 8, 9, Integer.MIN_VALUE, Integer.MAX_VALUE};
        for (int k : wrong) {
            Check.due("renderAt(" + k + ") of a new object", new PageRenderer().renderAt(k), -1);
            Check.due("renderAt(" + k + ") before the first render", x.renderAt(k), -1);
        }
        Check.due("no rendering: faultAt", x.faultAt(), -1);
        Check.due("no rendering: used", x.used(), 0);
        Check.due("no rendering: count(0)", x.count(0), 192);
        Check.due("render", x.render(), NEST);
        for (int k : wrong) {
            Check.due("renderAt(" + k + ")", x.renderAt(k), -1);
            Check.due("faultAt", x.faultAt(), 6);
            Check.due("used", x.used(), 3);
            Check.due("row(0)", x.row(0), 3);
            Check.due("by(0, 0)", x.by(0, 0), 5);
        }
        Check.due("renderAt(0)", x.renderAt(0), OK);
        Check.due("renderAt(2)", x.renderAt(2), -1);
        Check.due("faultAt after OK", x.faultAt(), -1);
        Check.due("count(0)", x.count(0), 192);
    }

    private static void lastCalls() {
        Check.sentence("An object is used for at most 512 calls");
        PageRenderer x = new PageRenderer();
        String most = Check.times(5, "1 Do");
        int calls = most.split(" ").length + 1 + 40 + 1;
        Check.put(x, 0, most);
        Check.put(x, 1, Check.times(36, "n") + "q q 3 w");
        while (calls < 511) {
            Check.due("render", x.render(), OK);
            calls++;
        }
        Check.due("used, the 512th call", x.used(), 200);
    }
}
