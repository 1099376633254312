/** Made-up streams, as texts, that paint much and seldom end with a fault. */
final class Pictures {
    private static final int LENGTH = 40;
    private static final String[] MATRICES = {
        "1 0 0 1 9 5", "1 0 0 1 -12 8", "1 0 0 1 6 -10", "0 1 -1 0 52 -4", "-1 0 0 1 64 0", "1 0 0 -1 0 48",
        "2 0 0 2 -20 -14", "1 1 -1 1 24 -8", "1 0 1 1 -18 0", "1 -1 0 1 2 20", "3 1 0 2 -30 -20"
    };
    private static final String[] FAULTS = {"Q", "h", "256 g", "61 w", "7", "6 Do", "0 Do", "1 17 Dg", "9 l"};
    private static final String[] ENDS = {"f", "f", "F", "F", "S"};

    private final StringBuilder text = new StringBuilder();
    private final Dice dice;
    private int length;

    Pictures(Dice dice) {
        this.dice = dice;
    }

    /** The text of stream s, which draws none but streams of greater numbers. */
    String stream(int s) {
        text.setLength(0);
        length = 0;
        int wanted = dice.between(12, LENGTH);
        for (int n = 0; n < 12 && length < wanted; n++) {
            int choice = dice.below(100);
            if (choice < 35 || n == 0) {
                add(painting());
            } else if (choice < 50) {
                add("q " + clip() + painting() + "Q " + small());
            } else if (choice < 58) {
                add("q " + matrix() + painting() + "Q " + small());
            } else if (choice < 64) {
                add(dice.chance(50) ? clip() : matrix());
            } else if (choice < 98 && s < 5) {
                add(drawing(s));
            } else if (choice == 99 && dice.chance(30)) {
                add(FAULTS[dice.below(FAULTS.length)] + " ");
            }
        }
        return text.toString();
    }

    /** A part that would be too much for the stream is left out whole. */
    private void add(String part) {
        int more = part.trim().split("\\s+").length;
        if (length + more <= LENGTH) {
            text.append(part);
            length += more;
        }
    }

    private String painting() {
        StringBuilder part = new StringBuilder();
        if (dice.chance(85)) {
            part.append(dice.chance(5) ? 0 : dice.between(1, 255)).append(" g ");
        }
        if (dice.chance(30)) {
            part.append(dice.chance(90) ? dice.between(0, 20) : dice.between(21, 60)).append(" w ");
        }
        part.append(shape());
        if (dice.chance(30)) {
            part.append(shape());
        }
        return part + ENDS[dice.below(ENDS.length)] + " ";
    }

    private String small() {
        return dice.chance(50) ? "" : place(60) + place(44) + "7 9 re f ";
    }

    private String clip() {
        String around = dice.between(-4, 24) + " " + dice.between(-4, 20) + " " + dice.between(12, 50) + " " + dice.between(12, 36) + " re ";
        return around + (dice.chance(30) ? shape() : "") + (dice.chance(50) ? "W " : "V ");
    }

    private String matrix() {
        return MATRICES[dice.below(MATRICES.length)] + " cm ";
    }

    private String drawing(int s) {
        String stream = dice.between(s + 1, 5) + " ";
        return dice.chance(35) ? stream + "Do " : stream + dice.between(0, 16) + " Dg ";
    }

    private String shape() {
        if (dice.chance(50)) {
            return place(50) + place(36) + dice.between(-30, 50) + " " + dice.between(-24, 40) + " re ";
        }
        StringBuilder part = new StringBuilder(place(64) + place(48) + "m ");
        for (int n = dice.between(1, 4); n > 0; n--) {
            part.append(place(64)).append(place(48)).append("l ");
        }
        return part + (dice.chance(30) ? "h " : "");
    }

    private String place(int most) {
        return (dice.chance(90) ? dice.between(0, most) : dice.between(-30, most + 30)) + " ";
    }
}
