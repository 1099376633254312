import java.math.BigInteger;
import java.util.ArrayDeque;
import java.util.ArrayList;
import java.util.Arrays;
import java.util.Deque;
import java.util.List;

/** The document once more, written for plainness: recursion, lists, fractions of any size. */
final class Model {
    private static final int[] NEEDS = {0, 2, 2, 0, 4, 0, 0, 0, 0, 0, 0, 0, 6, 1, 1, 0, 1, 2};

    private static final class Fault extends Exception {
        private static final long serialVersionUID = 1L;
        private final int code;

        Fault(int code) {
            this.code = code;
        }
    }

    private static final class State {
        int[] matrix = {1, 0, 0, 1, 0, 0};
        int colour = 1;
        int width = 4;
        boolean[][] clip = new boolean[16][12];

        State copy() {
            State other = new State();
            other.matrix = matrix.clone();
            other.colour = colour;
            other.width = width;
            for (int i = 0; i < 16; i++) {
                other.clip[i] = clip[i].clone();
            }
            return other;
        }
    }

    private final List<int[]> draft = new ArrayList<>();
    private final List<List<int[]>> contents = new ArrayList<>();
    private final List<Integer> streams = new ArrayList<>();
    private Integer[][] page = layer(0);
    private Integer[][] painters = layer(-1);
    private int faultAt = -1;
    private int used = 0;

    /** What has happened in all renderings: pixels mixed, put over nothing, and spared by a clip. */
    int mixed = 0;
    int overNothing = 0;
    int clipped = 0;

    private int revisions;
    private State state;
    private final Deque<State> saved = new ArrayDeque<>();
    private final List<Integer> executing = new ArrayList<>();
    private final List<List<int[]>> path = new ArrayList<>();
    private Integer[][] colours;
    private Integer[][] marks;

    private static Integer[][] layer(Integer value) {
        Integer[][] cells = new Integer[16][12];
        for (Integer[] column : cells) {
            Arrays.fill(column, value);
        }
        return cells;
    }

    boolean token(int kind, int value) {
        boolean good = kind >= 0 && kind <= 17 && draft.size() < 40 && (kind != 0 || Math.abs((long) value) <= 1000);
        return good && draft.add(new int[] {kind, value});
    }

    int wipe() {
        int had = draft.size();
        draft.clear();
        return had;
    }

    boolean commit(int s) {
        if (s < 0 || s > 5 || streams.size() == 8) {
            return false;
        }
        contents.add(new ArrayList<>(draft));
        streams.add(s);
        draft.clear();
        return true;
    }

    int revert() {
        if (streams.isEmpty()) {
            return -1;
        }
        contents.remove(contents.size() - 1);
        return streams.remove(streams.size() - 1);
    }

    int size(int s) {
        return s < 0 || s > 5 ? -1 : content(s, streams.size()).size();
    }

    int faultAt() {
        return faultAt;
    }

    int used() {
        return used;
    }

    int pixel(int i, int j) {
        return i < 0 || i > 15 || j < 0 || j > 11 ? -1 : page[i][j];
    }

    int by(int i, int j) {
        return i < 0 || i > 15 || j < 0 || j > 11 ? -1 : painters[i][j];
    }

    int count(int c) {
        int found = 0;
        for (Integer[] column : page) {
            for (int colour : column) {
                found += colour == c ? 1 : 0;
            }
        }
        return found;
    }

    int row(int j) {
        int sum = 0;
        for (int i = 0; i < 16 && j >= 0 && j < 12; i++) {
            sum += page[i][j] == 0 ? 0 : (int) Math.pow(2, i);
        }
        return j < 0 || j > 11 ? -1 : sum;
    }

    int render() {
        return renderAt(streams.size());
    }

    int renderAt(int k) {
        if (k < 0 || k > streams.size()) {
            return -1;
        }
        revisions = k;
        page = layer(0);
        painters = layer(-1);
        colours = page;
        marks = painters;
        state = new State();
        for (boolean[] column : state.clip) {
            Arrays.fill(column, true);
        }
        saved.clear();
        executing.clear();
        path.clear();
        faultAt = -1;
        used = 0;
        try {
            execute(0);
        } catch (Fault fault) {
            return fault.code;
        }
        return 0;
    }

    private List<int[]> content(int s, int count) {
        for (int r = count - 1; r >= 0; r--) {
            if (streams.get(r) == s) {
                return contents.get(r);
            }
        }
        return List.of();
    }

    private void execute(int s) throws Fault {
        executing.add(s);
        List<Integer> operands = new ArrayList<>();
        int floor = saved.size();
        List<int[]> tokens = content(s, revisions);
        for (int t = 0; t < tokens.size(); t++) {
            try {
                token(tokens.get(t), operands, 64 * s + t, floor);
            } catch (Fault fault) {
                faultAt = faultAt < 0 ? 64 * s + t : faultAt;
                throw fault;
            }
        }
        executing.remove(Integer.valueOf(s));
    }

    private void token(int[] token, List<Integer> operands, int mark, int floor) throws Fault {
        int kind = token[0];
        if (kind == 0) {
            demand(operands.size() < 6, 1);
            operands.add(token[1]);
            return;
        }
        demand(operands.size() == NEEDS[kind], 1);
        int[] o = operands.stream().mapToInt(Integer::intValue).toArray();
        operands.clear();
        demand(used < 200, 2);
        used++;
        operator(kind, o, mark, floor);
    }

    private void operator(int kind, int[] o, int mark, int floor) throws Fault {
        switch (kind) {
            case 1 -> begin(o[0], o[1]);
            case 2 -> line(map(o[0], o[1]));
            case 3 -> close();
            case 4 -> {
                begin(o[0], o[1]);
                line(map(o[0] + o[2], o[1]));
                line(map(o[0] + o[2], o[1] + o[3]));
                line(map(o[0], o[1] + o[3]));
                close();
            }
            case 5, 6, 7, 8, 15 -> use(kind, mark);
            case 9 -> path.clear();
            case 10 -> {
                demand(saved.size() < 6, 6);
                saved.push(state.copy());
            }
            case 11 -> {
                demand(saved.size() > floor, 6);
                state = saved.pop();
            }
            case 12 -> concat(o);
            case 13 -> {
                demand(o[0] >= 0 && o[0] <= 255, 3);
                state.colour = o[0];
            }
            case 16 -> {
                demand(o[0] >= 0 && o[0] <= 60, 3);
                state.width = o[0];
            }
            case 14 -> draw(o[0]);
            default -> group(o[0], o[1]);
        }
    }

    private void draw(int s) throws Fault {
        demand(s >= 0 && s <= 5, 3);
        demand(!executing.contains(s) && saved.size() < 6, 6);
        path.clear();
        int before = saved.size();
        saved.push(state.copy());
        execute(s);
        while (saved.size() > before) {
            state = saved.pop();
        }
        path.clear();
    }

    private void group(int s, int a) throws Fault {
        demand(a >= 0 && a <= 16, 3);
        Integer[][] belowColours = colours;
        Integer[][] belowMarks = marks;
        colours = layer(null);
        marks = layer(null);
        draw(s);
        for (int i = 0; i < 16; i++) {
            for (int j = 0; j < 12; j++) {
                if (colours[i][j] != null) {
                    int c = colours[i][j];
                    Integer below = belowColours[i][j];
                    mixed += below == null ? 0 : 1;
                    overNothing += below == null ? 1 : 0;
                    belowColours[i][j] = below == null ? c : Math.floorDiv(a * c + (16 - a) * below, 16);
                    belowMarks[i][j] = marks[i][j];
                }
            }
        }
        colours = belowColours;
        marks = belowMarks;
    }

    private void concat(int[] o) throws Fault {
        int[] m = state.matrix;
        int[] n = {
            o[0] * m[0] + o[1] * m[2], o[0] * m[1] + o[1] * m[3], o[2] * m[0] + o[3] * m[2],
            o[2] * m[1] + o[3] * m[3], o[4] * m[0] + o[5] * m[2] + m[4], o[4] * m[1] + o[5] * m[3] + m[5]
        };
        for (int k = 0; k < 6; k++) {
            demand(Math.abs(n[k]) <= (k < 4 ? 50 : 4000), 3);
        }
        state.matrix = n;
    }

    private static void demand(boolean holds, int fault) throws Fault {
        if (!holds) {
            throw new Fault(fault);
        }
    }

    private int[] map(int x, int y) throws Fault {
        int[] m = state.matrix;
        int[] point = {m[0] * x + m[2] * y + m[4], m[1] * x + m[3] * y + m[5]};
        demand(Math.abs(point[0]) <= 4000 && Math.abs(point[1]) <= 4000, 3);
        return point;
    }

    private void begin(int x, int y) throws Fault {
        int[] point = map(x, y);
        path.add(new ArrayList<>(List.of(point)));
    }

    private void line(int[] point) throws Fault {
        demand(!path.isEmpty(), 4);
        int edges = path.stream().mapToInt(part -> part.size() - 1).sum();
        demand(edges < 24, 5);
        path.get(path.size() - 1).add(point);
    }

    private void close() throws Fault {
        demand(!path.isEmpty(), 4);
        line(path.get(path.size() - 1).get(0));
    }

    private void use(int kind, int mark) {
        for (int i = 0; i < 16; i++) {
            for (int j = 0; j < 12; j++) {
                boolean hit = kind == 15 ? near(i, j) : inside(i, j, kind == 6 || kind == 8);
                if (kind == 7 || kind == 8) {
                    state.clip[i][j] &= hit;
                } else if (hit && state.clip[i][j]) {
                    colours[i][j] = state.colour;
                    marks[i][j] = mark;
                } else if (hit) {
                    clipped++;
                }
            }
        }
        path.clear();
    }

    private boolean inside(int i, int j, boolean odd) {
        int sum = 0;
        int number = 0;
        for (List<int[]> part : path) {
            for (int k = 0; k < part.size(); k++) {
                int counts = counts(part.get(k), part.get((k + 1) % part.size()), i, j);
                sum += counts;
                number += Math.abs(counts);
            }
        }
        return odd ? number % 2 == 1 : sum != 0;
    }

    private static int counts(int[] from, int[] to, int i, int j) {
        double y = 4 * j + 2.5;
        if (y < Math.min(from[1], to[1]) || y > Math.max(from[1], to[1])) {
            return 0;
        }
        // The place is a fraction of this divisor, which is made positive: both sides of the test are whole.
        BigInteger divisor = BigInteger.valueOf(2L * Math.abs(to[1] - from[1]));
        long way = Math.abs(8 * j + 5 - 2 * from[1]);
        BigInteger place = BigInteger.valueOf(from[0]).multiply(divisor)
            .add(BigInteger.valueOf(way).multiply(BigInteger.valueOf(to[0] - from[0])));
        BigInteger doubledPoint = BigInteger.valueOf(8 * i + 5).multiply(divisor);
        boolean left = place.shiftLeft(1).compareTo(doubledPoint) < 0;
        return !left ? 0 : from[1] < to[1] ? 1 : -1;
    }

    private boolean near(int i, int j) {
        for (List<int[]> part : path) {
            for (int k = 0; k + 1 < part.size(); k++) {
                if (near(part.get(k), part.get(k + 1), i, j)) {
                    return true;
                }
            }
        }
        return false;
    }

    /** Twice the distance from the nearest place of the edge, as a fraction of the square of its length. */
    private boolean near(int[] from, int[] to, int i, int j) {
        BigInteger dx = BigInteger.valueOf(to[0] - from[0]);
        BigInteger dy = BigInteger.valueOf(to[1] - from[1]);
        BigInteger px = BigInteger.valueOf(8 * i + 5 - 2 * from[0]);
        BigInteger py = BigInteger.valueOf(8 * j + 5 - 2 * from[1]);
        BigInteger square = dx.multiply(dx).add(dy.multiply(dy)).shiftLeft(1);
        BigInteger share = px.multiply(dx).add(py.multiply(dy)).max(BigInteger.ZERO).min(square);
        if (square.signum() == 0) {
            square = BigInteger.ONE;
        }
        BigInteger x = px.multiply(square).subtract(dx.shiftLeft(1).multiply(share));
        BigInteger y = py.multiply(square).subtract(dy.shiftLeft(1).multiply(share));
        BigInteger most = BigInteger.valueOf(state.width).multiply(square);
        return x.multiply(x).add(y.multiply(y)).compareTo(most.multiply(most)) <= 0;
    }
}
