/** Promises 4 and 5: which FAULT a text has, and where. The sign ^ marks the place and is not fed. */
public final class FaultsTest {
    private static final String TWO = "act ab;act cd;";

    public static void main(String[] args) {
        noTokens();
        tokensThatCannotStand();
        tooMany();
        formulas();
        toldAlready();
        impossibleNumbers();
        unknownNames();
        goodTexts();
        bytesCutOff();
        all();
        Check.finish("FaultsTest");
    }

    private static void fault(int want, String marked) {
        Check.fault(want, marked);
    }

    private static void good(int acts, String text) {
        Check.good(acts, text);
    }

    private static void noTokens() {
        fault(1, "^Size 3 by 3;");
        fault(1, "^!");
        fault(1, "  \n ^_");
        fault(1, "party^\tp;");
        fault(1, "party^\r p;");
        fault(1, "party p;^" + (char) 0);
        fault(1, "party p^" + (char) 200 + ";");
        fault(1, "party p^" + (char) 225 + ";");
        fault(1, "party ^abcdefghi;");
        fault(1, "act ^abcdefghi;");
        fault(1, "size ^12345 by 3;");
        fault(1, "force ^00001;");
        fault(1, "size ^3by 3;");
        fault(1, "force 1+^2and 3;");
        fault(1, "party p;act ab p -^1x;");
        fault(1, "act ab^,");
        fault(1, "^abcdefghi");
    }

    private static void tokensThatCannotStand() {
        fault(2, "^3");
        fault(2, "^;");
        fault(2, "^down 3;");
        fault(2, "^by");
        fault(2, "size^");
        fault(2, "size  \n^");
        fault(2, "size ^by 3;");
        fault(2, "size 3^");
        fault(2, "size 3 ^3;");
        fault(2, "size 3 by^");
        fault(2, "size 3 by ^;");
        fault(2, "size 3 by 3^");
        fault(2, "size 3 by 3 ^3;");
        fault(2, "party ^;");
        fault(2, "party ^3;");
        fault(2, "party p ^q;");
        for (String word : "size by party act black if and then never force or not".split(" ")) {
            fault(2, "party ^" + word + ";");
        }
        for (String word : "long vowels across line year meets".split(" ")) {
            fault(2, "act ^" + word + ";");
        }
        fault(2, "act ab ^3;");
        fault(2, "party p;act ab p^");
        fault(2, "party p;act ab p ^;");
        fault(2, "party p;act ab p - ^;");
        fault(2, "party p;act ab p - ^- 1;");
        fault(2, "party p;act ab p ^+ 1;");
        fault(2, "party p;act ab p 1 ^1;");
        fault(2, "party p;act ab p 1 ^line 1;");
        fault(2, "black ^ab");
        fault(2, "black 0 ^;");
        fault(2, "black 0 ^- 1;");
        fault(2, "black 0 0 ^0;");
        fault(2, TWO + "if ^3");
        fault(2, TWO + "if ab ^cd");
        fault(2, TWO + "if ab and ^then");
        fault(2, TWO + "if ab and cd ^ab");
        fault(2, TWO + "if ab and cd then ^;");
        fault(2, TWO + "if ab and cd then ab ^cd");
        fault(2, TWO + "never ab ^;");
        fault(2, TWO + "never ab ^and cd;");
        fault(2, TWO + "never ab cd ^ab;");
    }

    private static void tooMany() {
        fault(2, "party p;^size 3 by 3;");
        fault(2, "size 3 by 3;^size 3 by 3;");
        fault(2, "force 1;^size 3 by 3;");
        fault(2, "force 1;^force 2;");
        fault(2, "party a;party b;party c;^party d;");
        fault(2, acts(16) + "^act zz;");
        String black = "size 3 by 3;";
        for (int i = 0; i < 8; i++) {
            black += "black " + i / 3 + " " + i % 3 + ";";
        }
        fault(2, black + "^black 2 2;");
        String ifs = acts(10);
        String nevers = acts(10);
        for (int i = 0; i < 8; i++) {
            ifs += "if " + act(i) + " and " + act(i + 1) + " then ab;";
            nevers += "never " + act(i) + " " + act(i + 1) + ";";
        }
        fault(2, ifs + "^if " + act(8) + " and " + act(9) + " then ab;");
        fault(2, nevers + "^never " + act(8) + " " + act(9) + ";");
        good(10, ifs + nevers.substring(acts(10).length()) + black.substring(12) + "force 1;");
    }

    private static String act(int i) {
        return "a" + (char) ('b' + i);
    }

    private static String acts(int count) {
        StringBuilder all = new StringBuilder();
        for (int i = 0; i < count; i++) {
            all.append("act ").append(act(i)).append(';');
        }
        return all.toString();
    }

    private static void formulas() {
        fault(2, "force ^;");
        fault(2, "force^");
        fault(2, "force ^abc;");
        fault(2, "force ^party;");
        fault(2, "force ^- 1;");
        fault(2, "force ^+ 1;");
        fault(2, "force 1 ^1;");
        fault(2, "force 1 ^not 1;");
        fault(2, "force 1 + ^;");
        fault(2, "force 1 + ^not 1;");
        fault(2, "force 1 * ^)");
        fault(2, "force (1 ^;");
        fault(2, "force (^)");
        fault(2, "force (1)^)");
        fault(2, "force 1 < 2 ^< 3;");
        fault(2, "force 1 = 2 ^> 3;");
        fault(2, "force not ^;");
        fault(2, "force 1 or ^or 1;");
        fault(2, "force 1 and ^;");
        fault(2, "force 1^");
        fault(2, "force " + "1+".repeat(30) + "^1;");
        fault(2, "force " + "1+".repeat(30) + "^;");
        fault(2, "force " + "(1)*".repeat(15) + "^1;");
        fault(2, "force " + "(1)*".repeat(15) + "^(1);");
        fault(2, "force " + "1 or ".repeat(30) + "^long;");
        for (String sign : new String[] {"+", "-", "*", "/", "%", " and ", " or "}) {
            good(0, "force " + ("1" + sign).repeat(29) + "1;");
            fault(2, "force " + ("1" + sign).repeat(29) + "1" + sign + "^1;");
        }
        good(0, "force " + "(1)*".repeat(14) + "(1);");
        fault(2, "force " + "(".repeat(7) + "^(1" + ")".repeat(8) + ";");
        good(0, "force " + "(".repeat(7) + "1" + ")".repeat(7) + ";");
        fault(2, "force " + "not ".repeat(7) + "^not 1;");
        good(0, "force " + "not ".repeat(7) + "1;");
        fault(2, "force " + "not(".repeat(3) + "not ^(1))));");
        fault(2, "force " + "(not ".repeat(3) + "(^not 1))));");
        good(0, "force " + "(not ".repeat(3) + "(1))));");
        good(0, "force 1+2*3/4%5-6<(7>8)=9;".replace("=9", ""));
        good(0, "force not 1<2 and long or vowels*across+line-year/meets%9999;");
    }

    private static void toldAlready() {
        fault(3, "party p;party ^p;");
        fault(3, "act ab;act ^ab;");
        fault(3, "party p;act ab p 1 ^p 2;");
        fault(3, "party p;party q;party r;act ab q 1 r 2 p 3 ^q 1;");
        fault(3, TWO + "if ab and ^ab then cd;");
        fault(3, TWO + "never ab ^ab;");
        fault(3, TWO + "if ab and cd then ab;if ab and ^cd then cd;");
        fault(3, TWO + "if ab and cd then ab;if cd and ^ab then cd;");
        fault(3, TWO + "never ab cd;never ab ^cd;");
        fault(3, TWO + "never ab cd;never cd ^ab;");
        fault(3, "black 1 1;black 1 ^1;");
        fault(3, "black 1 1;black 1 ^0001 !");
        good(2, TWO + "if ab and cd then ab;never ab cd;");
        good(1, "party ab;act ab ab 1;");
    }

    private static void impossibleNumbers() {
        fault(4, "size ^1 by 3;");
        fault(4, "size ^0");
        fault(4, "size ^5");
        fault(4, "size 4 by ^6;");
        fault(4, "size 2 by ^1");
        fault(4, "black ^3 0;");
        fault(4, "black 2 ^3;");
        fault(4, "size 2 by 5;black ^2 0;");
        fault(4, "size 2 by 5;black 1 ^5;");
        fault(4, "party p;act ab p ^10;");
        fault(4, "party p;act ab p ^-10;");
        fault(4, "party p;act ab p ^- 10;");
        fault(4, "party p;act ab p ^-\n9999");
        fault(4, "act ^a;");
        fault(4, "act ^abcdef;");
        fault(4, "act ^abcdefgh;");
        good(1, "size 2 by 5;black 1 4;party p;act abcde p -9;");
        good(1, "size 4 by 2;black 3 1;party p;act ab p 0009;");
        good(1, "size 4 by 2;party p;act ab p -0;");
    }

    private static void unknownNames() {
        fault(5, "act ab ^p 1;");
        fault(5, "act ab ^ab 1;");
        fault(5, "act ab ^p 99;");
        fault(5, "party p;act ab ^q 1;party q;");
        fault(5, TWO + "if ^ef and ab then cd;");
        fault(5, TWO + "if ab and ^ef then cd;");
        fault(5, TWO + "if ab and cd then ^ef;");
        fault(5, TWO + "if ab and cd then ^e;");
        fault(5, TWO + "never ^ef ab;");
        fault(5, TWO + "never ab ^abcdefgh;");
        fault(5, "party p;" + TWO + "never ab ^p;");
    }

    private static void goodTexts() {
        good(0, "");
        good(0, " \n \n");
        good(0, "size2 by2;");
        good(0, "\nsize\n0002\nby\n5\n;\n");
        good(0, "party abcdefgh;party e;party v;");
        good(3, TWO + "act abcde;if ab and cd then ab;if ab and abcde then cd;");
        good(1, "act down;");
        good(1, "force(1);party p;act ab p-1;");
    }

    /** Bytes behind the end of the tape do not count, though they were fed. */
    private static void bytesCutOff() {
        String text = "size 2 by 2;party pq;act abc pq 12x;";
        for (int length = 0; length < text.length(); length++) {
            GridLaws cut = new GridLaws();
            Check.feed(cut, text);
            cut.end(length);
            GridLaws plain = new GridLaws();
            Check.feed(plain, text.substring(0, length));
            Check.due("cut at " + length, plain.grid(), cut.grid());
            Check.due("fault cut at " + length, plain.fault(0), cut.fault(0));
            Check.due("place cut at " + length, plain.fault(1), cut.fault(1));
        }
        GridLaws x = new GridLaws();
        Check.feed(x, "force 12x");
        x.end(8);
        Check.due("grid", GridLaws.NONE, x.grid());
        Check.due("fault", 2, x.fault(0));
        Check.due("place", 8, x.fault(1));
    }

    /** What a FAULT leaves as it was, and what a good text makes new. */
    private static void all() {
        GridLaws x = Check.of("size 2 by 3;party p;act ab p 1;act aba p 2;");
        x.write(1, 0);
        x.later(7);
        x.sight(0, 1, true);
        x.image(0);
        x.sitting();
        x.undo();
        x.best(0);
        Check.due("grid() of a fault", GridLaws.NONE, Check.grid(x, "size 3 by 3;act a;"));
        Check.due("bytes stay", 18, x.about(12));
        int[] stays = {2, 1, 2, 3, 0, 0, 0, 0, 1, 1, 1, 7, 18, 0};
        for (int what = 0; what < stays.length; what++) {
            Check.due("behind a fault about(" + what + ")", stays[what], x.about(what));
        }
        Check.due("the cell stays", 1, x.square(0));
        Check.due("the same text once more", GridLaws.NONE, x.grid());
        Check.due("its fault", 4, x.fault(0));
        Check.due("its place", 16, x.fault(1));
        x.end(12);
        Check.due("what is good of it", 0, x.grid());
        int[] news = {0, 0, 3, 3, 0, 0, 0, 0, 0, 0, 0, 7, 0, 0, 0};
        for (int what = 0; what < news.length; what++) {
            Check.due("behind grid() about(" + what + ")", news[what], x.about(what));
        }
        Check.due("fault(0)", 0, x.fault(0));
        Check.due("fault(1)", GridLaws.NONE, x.fault(1));
        Check.due("fault(2)", GridLaws.NONE, x.fault(2));
        Check.due("fault(-1)", GridLaws.NONE, x.fault(-1));
        Check.due("the cell is blank", 0, x.square(0));
        Check.due("the box is empty", GridLaws.NONE, x.back(0));
    }
}
