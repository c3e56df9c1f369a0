/** What the tests of the project share: texts onto the tape, and answers that are due. */
final class Check {
    private static int wrong = 0;
    private static int seen = 0;

    private Check() {
    }

    static void due(String call, long want, long got) {
        seen++;
        if (got != want) {
            wrong++;
            if (wrong <= 50) {
                System.out.println(call + " answered " + got + ", due is " + want);
            }
        }
    }

    static void due(String call, boolean want, boolean got) {
        due(call, want ? 1 : 0, got ? 1 : 0);
    }

    static boolean isClean() {
        return wrong == 0;
    }

    static void finish(String test) {
        System.out.println(test + ": " + seen + " answers, " + wrong + " wrong");
        System.exit(wrong == 0 && seen > 0 ? 0 : 1);
    }

    /** Puts a text on the tape behind what is there, and cuts off what fills the last twenty. */
    static void feed(GridLaws x, String text) {
        int before = x.about(12);
        for (int i = 0; i < text.length(); i += 20) {
            int[] five = new int[5];
            for (int j = 0; j < 20; j++) {
                int sign = i + j < text.length() ? text.charAt(i + j) : ' ';
                five[j / 4] = five[j / 4] << 8 | sign;
            }
            if (x.feed(five[0], five[1], five[2], five[3], five[4]) == GridLaws.NONE) {
                throw new IllegalStateException("no room on the tape");
            }
        }
        if (x.end(before + text.length()) != before + text.length()) {
            throw new IllegalStateException("the tape was not cut");
        }
    }

    static int grid(GridLaws x, String text) {
        feed(x, text);
        return x.grid();
    }

    static GridLaws of(String text) {
        GridLaws x = new GridLaws();
        if (grid(x, text) < 0) {
            throw new IllegalStateException("fault " + x.fault(0) + " at " + x.fault(1) + ": " + text);
        }
        return x;
    }

    /** A text with a FAULT: the sign ^ marks its place and is not fed. */
    static void fault(int want, String marked) {
        int place = marked.indexOf('^');
        String text = marked.substring(0, place) + marked.substring(place + 1);
        GridLaws x = new GridLaws();
        due("grid of " + marked, GridLaws.NONE, grid(x, text));
        due("fault of " + marked, want, x.fault(0));
        due("place of " + marked, place, x.fault(1));
    }

    /** A text without a FAULT. */
    static void good(int acts, String text) {
        GridLaws x = new GridLaws();
        due("grid of " + text, acts, grid(x, text));
        due("fault of " + text, 0, x.fault(0));
        due("place of " + text, GridLaws.NONE, x.fault(1));
    }
}
