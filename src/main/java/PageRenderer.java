/** A renderer of small pages; README.md says how it is used. */
public final class PageRenderer {
    public static final int OK = 0, OPERANDS = 1, TIME = 2, RANGE = 3, NOPOINT = 4, LONG = 5, NEST = 6;

    private static final int NUM = 0, MOVE = 1, LINE = 2, CLOSE = 3, RECTANGLE = 4, FILL = 5, FILL_ODD = 6;
    private static final int CLIP = 7, CLIP_ODD = 8, DROP = 9, SAVE = 10, RESTORE = 11, CONCAT = 12;
    private static final int COLOUR = 13, DRAW = 14, STROKE = 15, WIDTH = 16, GROUP = 17;

    private static final int NONE = -1;
    private static final int STREAMS = 6;
    private static final int LENGTH = 40;
    private static final int REVISIONS = 8;
    private static final int REVISION_TOKENS = REVISIONS * LENGTH;
    private static final int MAX_NUMBER = 1000;
    private static final int PLACE_BASE = 64;

    private static final int COLUMNS = 16;
    private static final int ROWS = 12;
    private static final int PIXELS = COLUMNS * ROWS;

    private static final int MAX_OPERANDS = 6;
    private static final int MAX_UNITS = 200;
    private static final int MAX_EDGES = 24;
    private static final int MAX_SAVED = 6;
    private static final int MAX_COORDINATE = 4000;
    private static final int MAX_FACTOR = 50;
    private static final int MAX_COLOUR = 255;
    private static final int MAX_WIDTH = 60;
    private static final int FULL_MIX = 16;

    // A state is six numbers of the matrix, in the order a b c d e f, then these two.
    private static final int COLOUR_AT = 6;
    private static final int WIDTH_AT = 7;
    private static final int STATE_SIZE = 8;

    // Every stream but the lowest has a saved state of its own, and so has every layer but the page:
    // the limit of saved states is the limit of streams and layers too.
    private static final int SLOTS = MAX_SAVED + 1;
    private static final int STATE_NUMBERS = SLOTS * STATE_SIZE;
    private static final int SLOT_PIXELS = SLOTS * PIXELS;

    // Each stream that is drawn costs a unit, so this many tokens and ends of streams are never passed.
    private static final int MAX_STEPS = (MAX_UNITS + 1) * (LENGTH + 1);

    private final int[] draftKinds = new int[LENGTH];
    private final int[] draftValues = new int[LENGTH];
    private int draftSize;

    private final int[] revisionStreams = new int[REVISIONS];
    private final int[] revisionSizes = new int[REVISIONS];
    private final int[] revisionKinds = new int[REVISION_TOKENS];
    private final int[] revisionValues = new int[REVISION_TOKENS];
    private int revisionCount;

    // The revision that each stream has its content from in the rendering, NONE for an empty stream.
    private final int[] contents = new int[STREAMS];

    // The streams being executed, the innermost last: the next token, the number of states that were
    // saved at the beginning, and the share of a group (NONE for a stream that paints on no own layer).
    private final int[] frameStreams = new int[SLOTS];
    private final int[] framePlaces = new int[SLOTS];
    private final int[] frameSaved = new int[SLOTS];
    private final int[] frameMixes = new int[SLOTS];
    private int depth;

    private final int[] operands = new int[MAX_OPERANDS];
    private int operandCount;
    private int units;
    private int faultPlace;

    // The slot above the saved states is the state in force, so that restoring is only a step down.
    private final int[] states = new int[STATE_NUMBERS];
    private final boolean[] clips = new boolean[SLOT_PIXELS];
    private int savedCount;

    private final int[] layerColours = new int[SLOT_PIXELS];
    private final int[] layerPainters = new int[SLOT_PIXELS];
    private int topLayer;

    private final int[] edgeFromX = new int[MAX_EDGES];
    private final int[] edgeFromY = new int[MAX_EDGES];
    private final int[] edgeToX = new int[MAX_EDGES];
    private final int[] edgeToY = new int[MAX_EDGES];
    private final int[] edgeFirsts = new int[MAX_EDGES];
    private int edgeCount;
    private boolean pathBegun;
    private int partFirst;
    private int startX;
    private int startY;
    private int currentX;
    private int currentY;

    private final int[] crossings = new int[PIXELS];
    private final boolean[] covered = new boolean[PIXELS];

    public PageRenderer() {
        faultPlace = NONE;
        clearLayer(0, 0);
    }

    public boolean token(int kind, int value) {
        if (kind < NUM || kind > GROUP || draftSize >= LENGTH) {
            return false;
        }
        if (kind == NUM && (value < -MAX_NUMBER || value > MAX_NUMBER)) {
            return false;
        }
        draftKinds[draftSize] = kind;
        draftValues[draftSize] = value;
        draftSize++;
        return true;
    }

    public int wipe() {
        int had = draftSize;
        draftSize = 0;
        return had;
    }

    public boolean commit(int s) {
        if (s < 0 || s >= STREAMS || revisionCount >= REVISIONS) {
            return false;
        }
        int base = revisionCount * LENGTH;
        for (int t = 0; t < draftSize; t++) {
            revisionKinds[base + t] = draftKinds[t];
            revisionValues[base + t] = draftValues[t];
        }
        revisionStreams[revisionCount] = s;
        revisionSizes[revisionCount] = draftSize;
        revisionCount++;
        draftSize = 0;
        return true;
    }

    public int revert() {
        if (revisionCount == 0) {
            return NONE;
        }
        revisionCount--;
        return revisionStreams[revisionCount];
    }

    public int size(int s) {
        if (s < 0 || s >= STREAMS) {
            return NONE;
        }
        int revision = newestRevision(s, revisionCount);
        return revision < 0 ? 0 : revisionSizes[revision];
    }

    public int render() {
        return renderFirst(revisionCount);
    }

    public int renderAt(int k) {
        if (k < 0 || k > revisionCount) {
            return NONE;
        }
        return renderFirst(k);
    }

    public int faultAt() {
        return faultPlace;
    }

    public int used() {
        return units;
    }

    public int pixel(int i, int j) {
        if (i < 0 || i >= COLUMNS || j < 0 || j >= ROWS) {
            return NONE;
        }
        return layerColours[j * COLUMNS + i];
    }

    public int by(int i, int j) {
        if (i < 0 || i >= COLUMNS || j < 0 || j >= ROWS) {
            return NONE;
        }
        return layerPainters[j * COLUMNS + i];
    }

    public int count(int c) {
        int found = 0;
        for (int p = 0; p < PIXELS; p++) {
            if (layerColours[p] == c) {
                found++;
            }
        }
        return found;
    }

    public int row(int j) {
        if (j < 0 || j >= ROWS) {
            return NONE;
        }
        int bits = 0;
        for (int i = 0; i < COLUMNS; i++) {
            if (layerColours[j * COLUMNS + i] != 0) {
                bits |= 1 << i;
            }
        }
        return bits;
    }

    private int newestRevision(int stream, int revisions) {
        int newest = NONE;
        for (int r = 0; r < revisions; r++) {
            if (revisionStreams[r] == stream) {
                newest = r;
            }
        }
        return newest;
    }

    private int renderFirst(int revisions) {
        startRendering(revisions);
        int fault = OK;
        for (int step = 0; step < MAX_STEPS && depth > 0 && fault == OK; step++) {
            int frame = depth - 1;
            int stream = frameStreams[frame];
            int place = framePlaces[frame];
            int revision = contents[stream];
            if (revision < 0 || place >= revisionSizes[revision]) {
                leaveStream();
            } else {
                framePlaces[frame] = place + 1;
                int at = revision * LENGTH + place;
                int mark = PLACE_BASE * stream + place;
                fault = takeToken(revisionKinds[at], revisionValues[at]);
                if (fault == OK) {
                    fault = operate(revisionKinds[at], mark);
                }
                faultPlace = fault == OK ? NONE : mark;
            }
        }
        return fault;
    }

    private void startRendering(int revisions) {
        for (int s = 0; s < STREAMS; s++) {
            contents[s] = newestRevision(s, revisions);
        }
        for (int n = 0; n < STATE_SIZE; n++) {
            states[n] = 0;
        }
        states[0] = 1;
        states[3] = 1;
        states[COLOUR_AT] = 1;
        states[WIDTH_AT] = 4;
        for (int p = 0; p < PIXELS; p++) {
            clips[p] = true;
        }
        savedCount = 0;
        topLayer = 0;
        clearLayer(0, 0);
        clearPath();
        units = 0;
        faultPlace = NONE;
        depth = 0;
        enterStream(0, NONE);
    }

    private void clearLayer(int layer, int colour) {
        int base = layer * PIXELS;
        for (int p = 0; p < PIXELS; p++) {
            layerColours[base + p] = colour;
            layerPainters[base + p] = NONE;
        }
    }

    private void clearPath() {
        pathBegun = false;
        edgeCount = 0;
    }

    private void enterStream(int stream, int mix) {
        frameStreams[depth] = stream;
        framePlaces[depth] = 0;
        frameSaved[depth] = savedCount;
        frameMixes[depth] = mix;
        depth++;
        operandCount = 0;
    }

    // Each stream has a list of operands of its own. That of the stream below is empty now, since the
    // operator that drew this stream took all that was in it.
    private void leaveStream() {
        operandCount = 0;
        depth--;
        if (frameMixes[depth] != NONE) {
            mixTopLayer(frameMixes[depth]);
        }
        if (depth > 0) {
            savedCount = frameSaved[depth] - 1;
        }
        clearPath();
    }

    private void mixTopLayer(int share) {
        int upper = topLayer * PIXELS;
        int lower = upper - PIXELS;
        for (int p = 0; p < PIXELS; p++) {
            int colour = layerColours[upper + p];
            int below = layerColours[lower + p];
            if (colour != NONE) {
                boolean alone = below == NONE;
                layerColours[lower + p] = alone ? colour : (share * colour + (FULL_MIX - share) * below) / FULL_MIX;
                layerPainters[lower + p] = layerPainters[upper + p];
            }
        }
        topLayer--;
    }

    private int takeToken(int kind, int value) {
        if (kind == NUM) {
            return addOperand(value);
        }
        int needed = operandsNeeded(kind);
        if (operandCount != needed) {
            return OPERANDS;
        }
        operandCount = 0;
        if (units >= MAX_UNITS) {
            return TIME;
        }
        units++;
        return OK;
    }

    private int addOperand(int value) {
        if (operandCount >= MAX_OPERANDS) {
            return OPERANDS;
        }
        operands[operandCount] = value;
        operandCount++;
        return OK;
    }

    private int operandsNeeded(int kind) {
        switch (kind) {
            case COLOUR:
            case DRAW:
            case WIDTH:
                return 1;
            case MOVE:
            case LINE:
            case GROUP:
                return 2;
            case RECTANGLE:
                return 4;
            case CONCAT:
                return 6;
            default:
                return 0;
        }
    }

    private int operate(int kind, int mark) {
        switch (kind) {
            case MOVE:
            case LINE:
                return addPoint(operands[0], operands[1], kind == MOVE);
            case CLOSE:
                return addEdge(startX, startY);
            case RECTANGLE:
                return addRectangle();
            case FILL:
            case FILL_ODD:
                coverInside(kind == FILL_ODD);
                paintCovered(mark);
                clearPath();
                return OK;
            case STROKE:
                coverLines();
                paintCovered(mark);
                clearPath();
                return OK;
            case CLIP:
            case CLIP_ODD:
                coverInside(kind == CLIP_ODD);
                clipToCovered();
                clearPath();
                return OK;
            case DROP:
                clearPath();
                return OK;
            case SAVE:
                return saveState();
            case RESTORE:
                return restoreState();
            case CONCAT:
                return changeMatrix();
            case COLOUR:
                return changeNumber(COLOUR_AT, MAX_COLOUR);
            case WIDTH:
                return changeNumber(WIDTH_AT, MAX_WIDTH);
            case DRAW:
                return drawStream(operands[0], NONE);
            case GROUP:
                return drawGroup(operands[0], operands[1]);
            default:
                return OK;
        }
    }

    private int addPoint(int x, int y, boolean begins) {
        int at = savedCount * STATE_SIZE;
        int mappedX = states[at] * x + states[at + 2] * y + states[at + 4];
        int mappedY = states[at + 1] * x + states[at + 3] * y + states[at + 5];
        if (mappedX < -MAX_COORDINATE || mappedX > MAX_COORDINATE) {
            return RANGE;
        }
        if (mappedY < -MAX_COORDINATE || mappedY > MAX_COORDINATE) {
            return RANGE;
        }
        return begins ? beginPart(mappedX, mappedY) : addEdge(mappedX, mappedY);
    }

    private int beginPart(int x, int y) {
        pathBegun = true;
        partFirst = edgeCount;
        startX = x;
        startY = y;
        currentX = x;
        currentY = y;
        return OK;
    }

    private int addEdge(int x, int y) {
        if (!pathBegun) {
            return NOPOINT;
        }
        if (edgeCount >= MAX_EDGES) {
            return LONG;
        }
        edgeFromX[edgeCount] = currentX;
        edgeFromY[edgeCount] = currentY;
        edgeToX[edgeCount] = x;
        edgeToY[edgeCount] = y;
        edgeFirsts[edgeCount] = partFirst;
        edgeCount++;
        currentX = x;
        currentY = y;
        return OK;
    }

    // The way round comes back to the first corner: the last edge is the one that h would give.
    private int addRectangle() {
        int fault = OK;
        for (int corner = 0; corner <= 4 && fault == OK; corner++) {
            int x = operands[0] + (corner == 1 || corner == 2 ? operands[2] : 0);
            int y = operands[1] + (corner == 2 || corner == 3 ? operands[3] : 0);
            fault = addPoint(x, y, corner == 0);
        }
        return fault;
    }

    private void coverInside(boolean odd) {
        for (int p = 0; p < PIXELS; p++) {
            crossings[p] = 0;
        }
        for (int k = 0; k < edgeCount; k++) {
            addCrossings(edgeFromX[k], edgeFromY[k], edgeToX[k], edgeToY[k]);
            int first = edgeFirsts[k];
            if (k + 1 == edgeCount || edgeFirsts[k + 1] != first) {
                addCrossings(edgeToX[k], edgeToY[k], edgeFromX[first], edgeFromY[first]);
            }
        }
        // A sum of ones and minus ones is odd just when their number is.
        for (int p = 0; p < PIXELS; p++) {
            covered[p] = odd ? (crossings[p] & 1) != 0 : crossings[p] != 0;
        }
    }

    // Everything is doubled, since a pixel's point has halves; so its height is never that of an end.
    private void addCrossings(int fromX, int fromY, int toX, int toY) {
        for (int p = 0; p < PIXELS; p++) {
            int x = 8 * (p % COLUMNS) + 5;
            int y = 8 * (p / COLUMNS) + 5;
            int side = (x - 2 * fromX) * (toY - fromY) - (y - 2 * fromY) * (toX - fromX);
            if (2 * fromY < y && y < 2 * toY && side > 0) {
                crossings[p]++;
            }
            if (2 * toY < y && y < 2 * fromY && side < 0) {
                crossings[p]--;
            }
        }
    }

    private void coverLines() {
        for (int p = 0; p < PIXELS; p++) {
            covered[p] = false;
        }
        for (int k = 0; k < edgeCount; k++) {
            coverNearEdge(k);
        }
    }

    // Doubled as well: twice the distance is then to be at most the whole width. Squares spare the root.
    private void coverNearEdge(int k) {
        long width = states[savedCount * STATE_SIZE + WIDTH_AT];
        long reach = width * width;
        long edgeX = 2L * (edgeToX[k] - edgeFromX[k]);
        long edgeY = 2L * (edgeToY[k] - edgeFromY[k]);
        long length = edgeX * edgeX + edgeY * edgeY;
        for (int p = 0; p < PIXELS; p++) {
            long x = 8 * (p % COLUMNS) + 5 - 2 * edgeFromX[k];
            long y = 8 * (p / COLUMNS) + 5 - 2 * edgeFromY[k];
            long along = x * edgeX + y * edgeY;
            boolean near;
            if (along <= 0) {
                near = x * x + y * y <= reach;
            } else if (along >= length) {
                near = (x - edgeX) * (x - edgeX) + (y - edgeY) * (y - edgeY) <= reach;
            } else {
                long across = x * edgeY - y * edgeX;
                near = across * across <= reach * length;
            }
            if (near) {
                covered[p] = true;
            }
        }
    }

    private void paintCovered(int mark) {
        int clip = savedCount * PIXELS;
        int layer = topLayer * PIXELS;
        int colour = states[savedCount * STATE_SIZE + COLOUR_AT];
        for (int p = 0; p < PIXELS; p++) {
            if (covered[p] && clips[clip + p]) {
                layerColours[layer + p] = colour;
                layerPainters[layer + p] = mark;
            }
        }
    }

    private void clipToCovered() {
        int clip = savedCount * PIXELS;
        for (int p = 0; p < PIXELS; p++) {
            clips[clip + p] = clips[clip + p] && covered[p];
        }
    }

    private int saveState() {
        if (savedCount >= MAX_SAVED) {
            return NEST;
        }
        int state = savedCount * STATE_SIZE;
        for (int n = 0; n < STATE_SIZE; n++) {
            states[state + STATE_SIZE + n] = states[state + n];
        }
        int clip = savedCount * PIXELS;
        for (int p = 0; p < PIXELS; p++) {
            clips[clip + PIXELS + p] = clips[clip + p];
        }
        savedCount++;
        return OK;
    }

    private int restoreState() {
        if (savedCount <= frameSaved[depth - 1]) {
            return NEST;
        }
        savedCount--;
        return OK;
    }

    private int changeMatrix() {
        int at = savedCount * STATE_SIZE;
        // The new matrix waits in the operands, since each of its pairs needs the old one whole.
        for (int n = 0; n < 6; n += 2) {
            int x = operands[n];
            int y = operands[n + 1];
            operands[n] = x * states[at] + y * states[at + 2];
            operands[n + 1] = x * states[at + 1] + y * states[at + 3];
        }
        operands[4] += states[at + 4];
        operands[5] += states[at + 5];
        for (int n = 0; n < 6; n++) {
            int limit = n < 4 ? MAX_FACTOR : MAX_COORDINATE;
            if (operands[n] < -limit || operands[n] > limit) {
                return RANGE;
            }
        }
        for (int n = 0; n < 6; n++) {
            states[at + n] = operands[n];
        }
        return OK;
    }

    private int changeNumber(int which, int limit) {
        if (operands[0] < 0 || operands[0] > limit) {
            return RANGE;
        }
        states[savedCount * STATE_SIZE + which] = operands[0];
        return OK;
    }

    private int drawGroup(int stream, int share) {
        if (share < 0 || share > FULL_MIX) {
            return RANGE;
        }
        int fault = drawStream(stream, share);
        if (fault == OK) {
            topLayer++;
            clearLayer(topLayer, NONE);
        }
        return fault;
    }

    private int drawStream(int stream, int mix) {
        if (stream < 0 || stream >= STREAMS) {
            return RANGE;
        }
        for (int frame = 0; frame < depth; frame++) {
            if (frameStreams[frame] == stream) {
                return NEST;
            }
        }
        int fault = saveState();
        if (fault == OK) {
            clearPath();
            enterStream(stream, mix);
        }
        return fault;
    }
}
