/** What the tests share: streams written as text, and the count of wrong answers. */
final class Check {
    private static final String[] NAMES = {
        "NUM", "m", "l", "h", "re", "f", "F", "W", "V", "n", "q", "Q", "cm", "g", "Do", "S", "w", "Dg"
    };
    private static int done = 0;
    private static int wrong = 0;
    private static String sentence = "";

    private Check() {
    }

    /** Says which sentence of the document the next answers are about; wrong ones are told under it. */
    static void sentence(String text) {
        sentence = "[" + text + "] ";
    }

    static void due(String what, long got, long want) {
        done++;
        if (got != want) {
            wrong++;
            System.out.println(sentence + what + " answered " + got + ", due is " + want);
        }
    }

    static void due(String what, boolean got, boolean want) {
        due(what, got ? 1L : 0L, want ? 1L : 0L);
    }

    /** Appends the tokens of a text such as "4 4 24 16 re f" to the draft. */
    static void draft(PageRenderer x, String text) {
        for (String word : text.trim().split("\\s+")) {
            if (!word.isEmpty()) {
                int kind = kindOf(word);
                int value = kind == 0 ? Integer.parseInt(word) : 0;
                due("token of " + word + " in " + text, x.token(kind, value), true);
            }
        }
    }

    static void put(PageRenderer x, int stream, String text) {
        draft(x, text);
        due("commit of " + text, x.commit(stream), true);
    }

    /** A new object whose streams 0, 1, 2 and so on have these texts. */
    static PageRenderer document(String... texts) {
        PageRenderer x = new PageRenderer();
        for (int s = 0; s < texts.length; s++) {
            put(x, s, texts[s]);
        }
        return x;
    }

    /** Renders the texts and looks at the answer, the place of the fault and the units. */
    static PageRenderer outcome(int fault, int faultAt, int used, String... texts) {
        PageRenderer x = document(texts);
        String what = String.join(" | ", texts);
        due("render of " + what, x.render(), fault);
        due("faultAt after " + what, x.faultAt(), faultAt);
        due("used after " + what, x.used(), used);
        return x;
    }

    /** Renders the texts, which is due to be OK, and looks at all rows; the ones left out are 0. */
    static PageRenderer rows(String texts, int... want) {
        PageRenderer x = document(texts.split("\\|"));
        due("render of " + texts, x.render(), PageRenderer.OK);
        for (int j = 0; j < 12; j++) {
            due("row " + j + " of " + texts, x.row(j), j < want.length ? want[j] : 0);
        }
        return x;
    }

    static String times(int n, String text) {
        return (text + " ").repeat(n);
    }

    static void finish(String name) {
        System.out.println(name + ": " + done + " answers, " + wrong + " wrong");
        if (wrong != 0 || done == 0) {
            System.exit(1);
        }
    }

    /** The kind of a token that is written as this word; a number's is 0. */
    static int kindOf(String word) {
        for (int kind = 1; kind < NAMES.length; kind++) {
            if (NAMES[kind].equals(word)) {
                return kind;
            }
        }
        return 0;
    }
}
