/** All promises: made-up runs of at most 512 calls, with the answers of Model due. */
public final class ModelTest {
    private static final int RUNS = 4000;
    private static final int CALLS = 512;
    private static final String[] NAMES = {"OK", "OPERANDS", "TIME", "RANGE", "NOPOINT", "LONG", "NEST"};

    private final PageRenderer x = new PageRenderer();
    private final Model model = new Model();
    private final int run;
    private final int[] met;
    private long seed;
    private int calls = 0;
    private int drafted = 0;
    private boolean pathBegun = false;

    private ModelTest(int run, int[] met) {
        this.run = run;
        this.met = met;
        this.seed = run * 7919L + 17;
    }

    public static void main(String[] args) {
        int[] met = new int[NAMES.length];
        for (int run = 0; run < RUNS; run++) {
            new ModelTest(run, met).go();
        }
        StringBuilder told = new StringBuilder("renderings ended with");
        for (int fault = 0; fault < met.length; fault++) {
            told.append(' ').append(NAMES[fault]).append(' ').append(met[fault]);
            Check.due("renderings that end with " + NAMES[fault] + " are many", met[fault] >= 50, true);
        }
        System.out.println(told);
        Check.finish("ModelTest");
    }

    private int below(int n) {
        seed = seed * 6364136223846793005L + 1442695040888963407L;
        return (int) ((seed >>> 33) % n);
    }

    private int between(int least, int most) {
        return least + below(most - least + 1);
    }

    private boolean chance(int percent) {
        return below(100) < percent;
    }

    private void due(String call, long got, long want) {
        calls++;
        Check.due("run " + run + ", call " + calls + ": " + call, got, want);
    }

    private void due(String call, boolean got, boolean want) {
        due(call, got ? 1L : 0L, want ? 1L : 0L);
    }

    private void go() {
        int round = 0;
        while (calls < CALLS - 120) {
            int s = round < 4 ? 3 - round : chance(50) ? between(0, 1) : between(0, 5);
            write(s, between(1, 40));
            due("commit", x.commit(s), model.commit(s));
            drafted = 0;
            if (round >= 3) {
                rendering();
            }
            if (chance(15)) {
                due("revert", x.revert(), model.revert());
            }
            round++;
        }
        for (int n = calls; n < CALLS; n++) {
            look();
        }
    }

    private void rendering() {
        int k = between(-1, 9);
        int got = chance(70) ? x.render() : -2;
        if (got == -2) {
            got = x.renderAt(k);
            due("renderAt(" + k + ")", got, model.renderAt(k));
        } else {
            due("render", got, model.render());
        }
        if (got >= 0 && got < met.length) {
            met[got]++;
        }
        due("faultAt", x.faultAt(), model.faultAt());
        due("used", x.used(), model.used());
        for (int j = 0; j < 12; j++) {
            due("row " + j, x.row(j), model.row(j));
        }
        for (int n = 0; n < 8; n++) {
            look();
        }
    }

    private void look() {
        int i = chance(95) ? below(16) : between(-2, 17);
        int j = chance(95) ? below(12) : between(-2, 13);
        int c = between(-1, 256);
        int s = between(-1, 6);
        switch (below(6)) {
            case 0, 1 -> due("pixel " + i + " " + j, x.pixel(i, j), model.pixel(i, j));
            case 2, 3 -> due("by " + i + " " + j, x.by(i, j), model.by(i, j));
            case 4 -> due("count " + c, x.count(c), model.count(c));
            default -> due("size " + s, x.size(s), model.size(s));
        }
    }

    private void token(int kind, int value) {
        due("token " + kind + " " + value, x.token(kind, value), model.token(kind, value));
        drafted++;
    }

    private void numbers(int... values) {
        for (int value : values) {
            token(0, value);
        }
    }

    private void write(int s, int length) {
        int style = below(100);
        pathBegun = false;
        while (drafted < length) {
            if (style < 4) {
                token(between(-1, 18), between(-5, 5));
            } else if (style < 24) {
                busy(s);
            } else if (chance(50)) {
                shape();
            } else if (chance(60)) {
                finish();
            } else {
                change();
            }
            if (chance(1)) {
                token(0, between(-1100, 1100));
            }
        }
        if (chance(3)) {
            due("wipe", x.wipe(), model.wipe());
            drafted = 0;
        }
    }

    /** Many calls of others, or many operators that do little: for the limits of units and edges. */
    private void busy(int s) {
        if (chance(80) && s < 3) {
            numbers(s + 1);
            token(14, 0);
        } else if (chance(50)) {
            numbers(between(0, 60), between(0, 40));
            token(1, 0);
            for (int n = between(0, 25); n > 0; n--) {
                token(3, 0);
            }
        } else {
            for (int n = between(0, 25); n > 0; n--) {
                token(9, 0);
            }
        }
    }

    private void finish() {
        token(new int[] {5, 5, 6, 6, 15, 15, 7, 8, 9, 10, 10, 11}[below(12)], 0);
        pathBegun = chance(2);
    }

    private void shape() {
        int kind = new int[] {1, 2, 2, 2, 4, 4, 3}[below(7)];
        if (!pathBegun) {
            kind = chance(50) ? 1 : 4;
        }
        pathBegun = true;
        if (kind == 3) {
            token(3, 0);
            return;
        }
        if (chance(8)) {
            numbers(between(-1000, 1000), between(-1000, 1000));
        } else {
            numbers(between(-10, 74), between(-10, 58));
        }
        if (kind == 4) {
            numbers(between(-40, 64), between(-30, 48));
        }
        token(kind, 0);
    }

    private void change() {
        switch (below(6)) {
            case 0 -> {
                numbers(chance(95) ? between(0, 255) : between(-2, 300));
                token(13, 0);
            }
            case 1 -> {
                numbers(chance(95) ? between(0, 20) : between(-2, 63));
                token(16, 0);
            }
            case 2 -> matrix();
            case 3, 4 -> {
                numbers(chance(95) ? between(1, 5) : between(-1, 6), chance(95) ? between(0, 16) : between(-2, 18));
                token(17, 0);
            }
            default -> {
                numbers(chance(95) ? between(1, 5) : between(-1, 6));
                token(14, 0);
            }
        }
    }

    private void matrix() {
        if (chance(30)) {
            numbers(1, 0, 0, 1, between(-30, 30), between(-20, 20));
        } else if (chance(30)) {
            numbers(0, chance(50) ? 1 : -1, chance(50) ? 1 : -1, 0, between(0, 60), between(0, 40));
        } else if (chance(90)) {
            numbers(between(-2, 2), between(-1, 1), between(-1, 1), between(-2, 2), between(0, 60), between(0, 40));
        } else {
            numbers(between(-30, 30), 0, 0, between(-30, 30), between(-900, 900), between(-900, 900));
        }
        token(12, 0);
    }
}
