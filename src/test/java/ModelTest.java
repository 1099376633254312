/** All promises: made-up runs of at most 512 calls, with the answers of Model due. */
public final class ModelTest {
    private static final int RUNS = 4000;
    private static final int CALLS = 512;
    private static final String[] NAMES = {"OK", "OPERANDS", "TIME", "RANGE", "NOPOINT", "LONG", "NEST"};
    private static final String[] SEEN = {"pixels-painted", "pixels-mixed", "pixels-over-nothing", "pixels-clipped"};

    private final PageRenderer x = new PageRenderer();
    private final Model model = new Model();
    private final int run;
    private final int[] met;
    private final Dice dice;
    private int calls = 0;
    private int drafted = 0;
    private boolean pathBegun = false;
    private int painted = 0;

    private ModelTest(int run, int[] met) {
        this.run = run;
        this.met = met;
        this.dice = new Dice(run * 7919L + 17);
    }

    public static void main(String[] args) {
        int[] met = new int[NAMES.length];
        int[] seen = new int[SEEN.length];
        for (int run = 0; run < RUNS; run++) {
            ModelTest test = new ModelTest(run, met);
            if (run % 2 == 0) {
                test.wildRun();
            } else {
                test.pictureRun();
                test.tellSeen(seen);
            }
        }
        tell("renderings ended with", NAMES, met, RUNS / 100);
        tell("pictures had", SEEN, seen, 5 * RUNS);
        Check.finish("ModelTest");
    }

    /** A run that meets too little is no test, so that is told too. */
    private static void tell(String what, String[] names, int[] numbers, int least) {
        StringBuilder told = new StringBuilder(what);
        for (int n = 0; n < names.length; n++) {
            told.append(' ').append(names[n]).append(' ').append(numbers[n]);
            Check.due(what + " enough of " + names[n], numbers[n] >= least, true);
        }
        System.out.println(told);
    }

    private void tellSeen(int[] seen) {
        seen[0] += painted;
        seen[1] += model.mixed;
        seen[2] += model.overNothing;
        seen[3] += model.clipped;
    }

    private void due(String call, long got, long want) {
        calls++;
        Check.due("run " + run + ", call " + calls + ": " + call, got, want);
    }

    private void due(String call, boolean got, boolean want) {
        due(call, got ? 1L : 0L, want ? 1L : 0L);
    }

    /** Streams that paint and draw each other, looked at with all calls that are left. */
    private void pictureRun() {
        Pictures pictures = new Pictures(dice);
        for (int s = 0; s <= 5; s++) {
            if (dice.chance(85) || s == 0) {
                commitText(s, pictures.stream(s));
            }
        }
        while (calls < CALLS - 140) {
            rendering();
            if (dice.chance(60)) {
                due("revert", x.revert(), model.revert());
            }
            int s = dice.below(3);
            commitText(s, pictures.stream(s));
        }
        rendering();
        while (calls < CALLS) {
            look();
        }
    }

    private void commitText(int s, String text) {
        for (String word : text.trim().split("\\s+")) {
            int kind = Check.kindOf(word);
            token(kind, kind == 0 ? Integer.parseInt(word) : 0);
        }
        due("commit", x.commit(s), model.commit(s));
        due("wipe", x.wipe(), model.wipe());
    }

    /** Streams of any tokens, for the faults; few of them paint. */
    private void wildRun() {
        int round = 0;
        due("revert", x.revert(), model.revert());
        while (calls < CALLS - 120) {
            int s = round < 4 ? 3 - round : dice.chance(50) ? dice.between(0, 1) : dice.between(0, 5);
            write(s, dice.between(1, 40));
            int wrong = dice.between(-1, 6);
            if (dice.chance(10)) {
                due("commit " + wrong, x.commit(wrong), model.commit(wrong));
            }
            due("commit " + s, x.commit(s), model.commit(s));
            drafted = 0;
            if (round >= 3) {
                rendering();
            }
            if (dice.chance(15)) {
                due("revert", x.revert(), model.revert());
            }
            round++;
        }
        for (int n = calls; n < CALLS; n++) {
            look();
        }
    }

    private void rendering() {
        int k = dice.between(-1, 9);
        int got = dice.chance(70) ? x.render() : -2;
        if (got == -2) {
            got = x.renderAt(k);
            due("renderAt(" + k + ")", got, model.renderAt(k));
        } else {
            due("render", got, model.render());
        }
        if (got >= 0 && got < met.length) {
            met[got]++;
        }
        painted += 192 - model.count(0);
        due("faultAt", x.faultAt(), model.faultAt());
        due("used", x.used(), model.used());
        for (int j = 0; j < 12; j++) {
            due("row " + j, x.row(j), model.row(j));
        }
        for (int n = 0; n < 8; n++) {
            look();
        }
    }

    private void look() {
        int i = dice.chance(95) ? dice.below(16) : dice.between(-2, 17);
        int j = dice.chance(95) ? dice.below(12) : dice.between(-2, 13);
        int c = dice.between(-1, 256);
        int s = dice.between(-1, 6);
        int row = dice.between(-1, 12);
        switch (dice.below(7)) {
            case 0, 1 -> due("pixel " + i + " " + j, x.pixel(i, j), model.pixel(i, j));
            case 2, 3 -> due("by " + i + " " + j, x.by(i, j), model.by(i, j));
            case 4 -> due("count " + c, x.count(c), model.count(c));
            case 5 -> due("row " + row, x.row(row), model.row(row));
            default -> due("size " + s, x.size(s), model.size(s));
        }
    }

    private void token(int kind, int value) {
        due("token " + kind + " " + value, x.token(kind, value), model.token(kind, value));
        drafted++;
    }

    private void numbers(int... values) {
        for (int value : values) {
            token(0, value);
        }
    }

    private void write(int s, int length) {
        int style = dice.below(100);
        pathBegun = false;
        while (drafted < length) {
            if (style < 4) {
                token(dice.between(-1, 18), dice.between(-5, 5));
            } else if (style < 24) {
                busy(s);
            } else if (style < 32) {
                limits();
            } else if (style < 40) {
                nested(s);
            } else if (dice.chance(50)) {
                shape();
            } else if (dice.chance(60)) {
                finish();
            } else {
                change();
            }
            if (dice.chance(1)) {
                token(0, dice.chance(50) ? dice.between(-1100, 1100) : atLimit(1000));
            }
        }
        if (dice.chance(3)) {
            due("wipe", x.wipe(), model.wipe());
            drafted = 0;
        }
    }

    /** Many calls of others, or many operators that do little: for the limits of units and edges. */
    private void busy(int s) {
        if (dice.chance(80) && s < 3) {
            numbers(s + 1);
            token(14, 0);
        } else if (dice.chance(50)) {
            numbers(dice.between(0, 60), dice.between(0, 40));
            token(1, 0);
            for (int n = dice.between(0, 25); n > 0; n--) {
                token(3, 0);
            }
        } else {
            for (int n = dice.between(0, 25); n > 0; n--) {
                token(9, 0);
            }
        }
    }

    /** Matrices and points just at their limits, or just beyond them. */
    private void limits() {
        int[] matrix = {1, 0, 0, 1, 0, 0};
        if (dice.chance(30)) {
            matrix[dice.below(4)] = atLimit(50);
        } else {
            matrix = new int[] {4, 0, 0, 4, dice.between(-1, 1), dice.between(-1, 1)};
        }
        token(10, 0);
        numbers(matrix);
        token(12, 0);
        int limit = dice.chance(50) ? 1000 : -1000;
        int[] far = {dice.chance(50) ? limit : 0, dice.chance(50) ? limit : 0};
        if (dice.chance(30)) {
            numbers(1, 0, 0, 1);
            numbers(far);
            token(12, 0);
        } else {
            numbers(far);
            token(1, 0);
            pathBegun = true;
        }
        token(11, 0);
        if (dice.chance(30)) {
            numbers(dice.chance(50) ? atLimit(0) : atLimit(255));
            token(13, 0);
        }
    }

    private int atLimit(int limit) {
        return (dice.chance(50) ? limit : -limit) + dice.between(-1, 1);
    }

    /** States and streams inside each other, about as many as there may be. */
    private void nested(int s) {
        for (int n = dice.between(0, 4); n > 0; n--) {
            token(10, 0);
        }
        if (dice.chance(70)) {
            numbers(dice.between(s, 5));
            token(14, 0);
        }
        for (int n = dice.between(0, 4); n > 0; n--) {
            token(11, 0);
        }
    }

    private void finish() {
        token(new int[] {5, 5, 6, 6, 15, 15, 7, 8, 9, 10, 10, 11}[dice.below(12)], 0);
        pathBegun = dice.chance(2);
    }

    private void shape() {
        int kind = new int[] {1, 2, 2, 2, 4, 4, 3}[dice.below(7)];
        if (!pathBegun) {
            kind = dice.chance(50) ? 1 : 4;
        }
        pathBegun = true;
        if (kind == 3) {
            token(3, 0);
            return;
        }
        if (dice.chance(8)) {
            numbers(dice.between(-1000, 1000), dice.between(-1000, 1000));
        } else {
            numbers(dice.between(-10, 74), dice.between(-10, 58));
        }
        if (kind == 4) {
            numbers(dice.between(-40, 64), dice.between(-30, 48));
        }
        token(kind, 0);
    }

    private void change() {
        switch (dice.below(6)) {
            case 0 -> {
                numbers(dice.chance(95) ? dice.between(0, 255) : dice.between(-2, 300));
                token(13, 0);
            }
            case 1 -> {
                numbers(dice.chance(95) ? dice.between(0, 20) : dice.between(-2, 63));
                token(16, 0);
            }
            case 2 -> matrix();
            case 3, 4 -> {
                numbers(dice.chance(95) ? dice.between(1, 5) : dice.between(-1, 6), dice.chance(95) ? dice.between(0, 16) : dice.between(-2, 18));
                token(17, 0);
            }
            default -> {
                numbers(dice.chance(95) ? dice.between(1, 5) : dice.between(-1, 6));
                token(14, 0);
            }
        }
    }

    private void matrix() {
        if (dice.chance(30)) {
            numbers(1, 0, 0, 1, dice.between(-30, 30), dice.between(-20, 20));
        } else if (dice.chance(30)) {
            numbers(0, dice.chance(50) ? 1 : -1, dice.chance(50) ? 1 : -1, 0, dice.between(0, 60), dice.between(0, 40));
        } else if (dice.chance(90)) {
            numbers(dice.between(-2, 2), dice.between(-1, 1), dice.between(-1, 1), dice.between(-2, 2), dice.between(0, 60), dice.between(0, 40));
        } else {
            numbers(dice.between(-30, 30), 0, 0, dice.between(-30, 30), dice.between(-900, 900), dice.between(-900, 900));
        }
        token(12, 0);
    }
}
