import java.util.Random;

/** Texts of odd tokens and calls with odd numbers: none may throw, and each FAULT has its place. */
public final class FuzzTest {
    private static final String[] TOKENS = ("size by party act black if and then never force or not long vowels across "
            + "line year meets ; ; ; ; ( ) < > = + - * / % 0 1 2 3 4 9 10 12345 ab ba aba p q a abcdef abcdefghi ! 1x")
            .split(" ");
    private static final String[] LINES = {"size 3 by 3 ;", "size 2 by 5 ;", "party p ;", "party q ;", "act ab p 1 ;",
        "act ba ;", "act aba q - 3 ;", "black 1 1 ;", "black 0 2 ;", "if ab and ba then aba ;", "never ab ba ;",
        "force long + ( 2 * year ) ;", "force not 1 < 2 or 3 and 4 ;"};
    private static final int[] ODD = {0, 1, 2, 3, 4, 5, 6, 8, 9, 13, 20, 27, 30, 99, 1000, -1, -2,
        Integer.MIN_VALUE, Integer.MAX_VALUE};

    public static void main(String[] args) {
        Random random = new Random(7);
        GridLaws x = new GridLaws();
        for (int i = 0; i < 60000 && Check.isClean(); i++) {
            x.end(0);
            String text = text(random);
            text = text.substring(0, Math.min(text.length(), 1580));
            Check.feed(x, text);
            int acts = x.about(0);
            int answer = x.grid();
            int fault = x.fault(0);
            if (answer == GridLaws.NONE) {
                Check.due("fault of " + text, true, fault >= 1 && fault <= 5);
                Check.due("place in " + text, true, x.fault(1) >= 0 && x.fault(1) <= text.length());
                Check.due("acts stay", acts, x.about(0));
                Check.due("the tape stays", text.length(), x.about(12));
                Check.due("a good beginning of " + text, true, isOpenAt(text, x.fault(1)));
            } else {
                Check.due("no fault in " + text, 0, fault);
                Check.due("acts", answer, x.about(0));
            }
            for (int j = 0; j < 4; j++) {
                call(x, random);
            }
        }
        Check.finish("FuzzTest");
    }

    /** What stands ahead of a FAULT has none itself, but that it may end too soon. */
    private static boolean isOpenAt(String text, int place) {
        GridLaws y = new GridLaws();
        String ahead = text.substring(0, place);
        Check.feed(y, ahead);
        return y.grid() >= 0 || y.fault(0) == 2 && y.fault(1) == place;
    }

    private static String text(Random random) {
        StringBuilder text = new StringBuilder();
        int lines = random.nextInt(9);
        for (int i = 0; i < lines; i++) {
            String[] words = LINES[random.nextInt(LINES.length)].split(" ");
            for (String word : words) {
                int turn = random.nextInt(60);
                text.append(turn == 0 ? TOKENS[random.nextInt(TOKENS.length)] : turn == 1 ? "" : word);
                text.append(random.nextInt(9) == 0 ? "\n" : " ");
            }
        }
        if (random.nextInt(3) == 0) {
            for (int i = random.nextInt(12); i > 0; i--) {
                text.append(TOKENS[random.nextInt(TOKENS.length)]).append(random.nextInt(3) == 0 ? "" : " ");
            }
        }
        return text.toString();
    }

    private static int odd(Random random) {
        return ODD[random.nextInt(ODD.length)];
    }

    private static void call(GridLaws x, Random r) {
        switch (r.nextInt(30)) {
            case 0 -> x.square(odd(r));
            case 1 -> x.slot(odd(r), odd(r));
            case 2 -> x.fits(odd(r));
            case 3 -> x.places(odd(r));
            case 4 -> x.wants(odd(r), odd(r));
            case 5, 6 -> x.write(odd(r), odd(r));
            case 7 -> x.strike(odd(r));
            case 8 -> x.blacken(odd(r));
            case 9 -> x.sitting();
            case 10 -> x.undo();
            case 11 -> x.redo();
            case 12 -> x.worth(odd(r));
            case 13 -> x.best(odd(r));
            case 14 -> x.span(odd(r), odd(r));
            case 15 -> x.reform(odd(r), odd(r));
            case 16 -> x.play(odd(r), odd(r), odd(r));
            case 17 -> x.will(odd(r), odd(r));
            case 18 -> x.lies(odd(r));
            case 19 -> x.sight(odd(r), odd(r), r.nextBoolean());
            case 20 -> x.untell(odd(r));
            case 21 -> x.later(odd(r));
            case 22 -> x.prints(odd(r));
            case 23 -> x.sure(odd(r), odd(r));
            case 24 -> x.ask(odd(r), odd(r));
            case 25 -> x.image(odd(r));
            case 26 -> x.back(odd(r));
            case 27 -> x.about(odd(r));
            case 28 -> x.fault(odd(r));
            default -> x.end(odd(r));
        }
    }
}
