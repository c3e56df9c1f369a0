/**
 * The edges that "Terms", part 1, names: how long a text may be, TOKENS, how many of each sort, which
 * numbers, FAULTS and their places. Each method stands for the words of the document above it.
 */
public final class TextEdgesTest {
    private static final int NONE = GridLaws.NONE;
    private static final String OWN_WORDS =
            "size by party act black if and then never force or not long vowels across line year meets";
    private static final String SIGNS = ";()<>=+-*/%";

    public static void main(String[] args) {
        bytesOfAText();
        emptyAtFirst();
        lettersOfAWord();
        digitsOfANumber();
        eachByte();
        blanks();
        asLongAsCanBe();
        letterBehindANumber();
        wordsThatStandForThemselves();
        rowsAndColumns();
        sizeNotTold();
        sizeOnce();
        sizeAhead();
        parties();
        acts();
        namesToldAlready();
        lettersOfAnAct();
        partiesToldAhead();
        eachPartyOnce();
        wants();
        wantsNotTold();
        blackCells();
        rowsOfBlackCells();
        blackCellsOnce();
        ifs();
        nevers();
        actsToldAhead();
        firstTwoUnlike();
        eachTwoOnce();
        numberedAsTold();
        forceOnce();
        units();
        unitsInBrackets();
        brackets();
        nots();
        bracketsAndNots();
        formulasCutShort();
        firstByItsPlace();
        theEnd();
        atOnePlaceTheLeast();
        atTheLinesFirstWord();
        valueAtItsSign();
        allowedTogether();
        Check.finish("TextEdgesTest");
    }

    private static void fault(int want, String marked) {
        Check.fault(want, marked);
    }

    private static void good(int acts, String text) {
        Check.good(acts, text);
    }

    private static void about(String text, int what, int want) {
        Check.due("about(" + what + ") of " + text, want, Check.of(text).about(what));
    }

    private static String act(int i) {
        return "x" + (char) ('a' + i);
    }

    private static String acts(int count) {
        StringBuilder all = new StringBuilder();
        for (int i = 0; i < count; i++) {
            all.append("act ").append(act(i)).append(';');
        }
        return all.toString();
    }

    /** "A GRID is a text of at most 1,600 bytes": 1,599, 1,600, and no byte more. */
    private static void bytesOfAText() {
        String last = "act cd;";
        for (int length = 1598; length <= 1600; length++) {
            good(2, "act ab;" + " ".repeat(length - 14) + last);
        }
        fault(2, "act ab;" + " ".repeat(1590) + "act^");
        fault(1, "act ab;" + " ".repeat(1592) + "^!");
        fault(2, "act ab" + " ".repeat(1594) + "^");
        GridLaws x = new GridLaws();
        Check.feed(x, "act ab;" + " ".repeat(1586) + last);
        Check.due("1,600 bytes", 1600, x.about(12));
        Check.due("no more come", NONE, x.feed(0x61637420, 0x65663b20, 0, 0, 0));
        Check.due("1,600 bytes still", 1600, x.about(12));
        Check.due("the text is the same", 2, x.grid());
    }

    /** "(empty at first)" */
    private static void emptyAtFirst() {
        GridLaws x = new GridLaws();
        Check.due("no bytes", 0, x.about(12));
        Check.due("the empty text is a grid", 0, x.grid());
        Check.due("without a fault", 0, x.fault(0));
        Check.due("nor a place", NONE, x.fault(1));
        Check.due("of 3 rows", 3, x.about(2));
        Check.due("and 3 columns", 3, x.about(3));
    }

    /** "words (a .. z, 8 at most)": 1, 7, 8 and 9 letters, and the bytes beside a and z. */
    private static void lettersOfAWord() {
        good(0, "party a;");
        good(0, "party z;");
        good(0, "party abcdefg;");
        good(0, "party abcdefgh;");
        good(0, "party zzzzzzzz;");
        fault(1, "party ^abcdefghi;");
        fault(1, "party ^zzzzzzzzzz;");
        fault(1, "party ^`;");
        fault(1, "party ^{;");
        fault(1, "party ^A;");
        fault(1, "party ^Z;");
        fault(1, "party ab^Cd;");
        fault(1, "party abcdefgh^`;");
        fault(1, "^abcdefghi");
        // Eight letters tell names apart up to the last one.
        good(0, "party abcdefgh;party abcdefgi;party abcdefg;");
        fault(3, "party abcdefgh;party ^abcdefgh;");
    }

    /** "N (1 to 4 digits)": 1, 4 and 5 digits, with 0 ahead of others too. */
    private static void digitsOfANumber() {
        good(0, "force 0;");
        good(0, "force 9;");
        good(0, "force 999;");
        good(0, "force 9999;");
        good(0, "force 0000;");
        fault(1, "force ^10000;");
        fault(1, "force ^00000;");
        fault(1, "force ^99999");
        fault(1, "size ^00002 by 3;");
        about("size 0002 by 0005;", 3, 5);
        good(0, "black 0002 0000;");
    }

    /** "signs ; ( ) < > = + - * / %": every other byte that is no letter, digit or blank is no TOKEN. */
    private static void eachByte() {
        for (int b = 0; b < 256; b++) {
            char sign = (char) b;
            if (b >= 'a' && b <= 'z') {
                good(0, "party " + sign + ";");
            } else if (b == ' ' || b == '\n') {
                fault(2, "party " + sign + "^;");
            } else if (b >= '0' && b <= '9' || SIGNS.indexOf(sign) >= 0) {
                fault(2, "party ^" + sign + ";");
            } else {
                fault(1, "party ^" + sign + ";");
            }
        }
    }

    /** "blanks (32, 10) part them or not": none, one, many, and bytes beside these that are none. */
    private static void blanks() {
        good(1, "size2 by3;party p;act ab p-9;black1 1;force(1)*(long)<3 and not(year);");
        good(1, " size 2 by 3 ; party p ; act ab p - 9 ; black 1 1 ; force ( 1 ) ; ");
        good(1, "\n\nsize\n2\nby\n3\n;\n \n party\np;act\nab\n p \n-\n9;\n");
        good(0, " ");
        good(0, "\n");
        for (int b : new int[] {9, 11, 12, 13, 31, 33, 0, 160, 255}) {
            fault(1, "party^" + (char) b + "p;");
        }
    }

    /** "each is as long as can be" */
    private static void asLongAsCanBe() {
        fault(2, "^partyp;");
        fault(2, "^sizeby 3;");
        good(0, "party iff;");
        fault(2, "party ^if;");
        fault(4, "size ^22 by 3;");
        fault(4, "black 00 ^11;");
        fault(2, "force ^notlong;");
        fault(2, "force ^longlong;");
        fault(2, "force long^1;");
        good(0, "force not(long);");
    }

    /** "no letter directly behind an N"; a digit may stand directly behind a word. */
    private static void letterBehindANumber() {
        fault(1, "size ^2by 3;");
        fault(1, "size 2 by ^3x;");
        fault(1, "black 0 ^0a;");
        fault(1, "party p;act ab p ^1p;");
        fault(1, "party p;act ab p -^9z;");
        fault(1, "force ^1or 2;");
        fault(1, "force 9*^9999z;");
        good(0, "size 2 by3;");
        good(0, "size2 by 3;");
        good(1, "party p;act ab p9;");
        good(0, "force 1 or 2;");
        good(0, "force 1\nor 2;");
        good(0, "force (1)or(2);");
        // The byte ahead of a and the one behind z are no letters, but no TOKENS either.
        fault(1, "force 1^`;");
        fault(1, "force 1^{;");
    }

    /** "Words that stand for themselves here are no NAMES." */
    private static void wordsThatStandForThemselves() {
        String two = "party p;act ab;act cd;";
        for (String word : OWN_WORDS.split(" ")) {
            fault(2, "party ^" + word + ";");
            fault(2, "act ^" + word + ";");
            fault(2, "party p;act ab p 1 ^" + word + " 1;");
            fault(2, two + "if ^" + word + " and ab then cd;");
            fault(2, two + "if ab and ^" + word + " then cd;");
            fault(2, two + "if ab and cd then ^" + word + ";");
            fault(2, two + "never ^" + word + " ab;");
            fault(2, two + "never ab ^" + word + ";");
            good(0, "party x" + word + ";");
        }
        for (String word : "grid n v e both one sum term unit name blank slot sizes siz".split(" ")) {
            good(0, "party " + word + ";");
        }
        for (String word : "grid both one sum term unit name nor ify ands".split(" ")) {
            good(1, "act " + word + ";");
        }
    }

    /** "size (ROWS 2 .. 4, COLUMNS 2 .. 5": each number of both from 0 on, and the largest. */
    private static void rowsAndColumns() {
        for (int rows : new int[] {0, 1, 2, 3, 4, 5, 6, 9999}) {
            for (int columns : new int[] {0, 1, 2, 3, 4, 5, 6, 9999}) {
                String text = "size " + rows + " by " + columns + ";";
                if (rows < 2 || rows > 4) {
                    fault(4, text.replace("size ", "size ^"));
                } else if (columns < 2 || columns > 5) {
                    fault(4, text.replace("by ", "by ^"));
                } else {
                    about(text, 2, rows);
                    about(text, 3, columns);
                    GridLaws x = Check.of(text);
                    Check.due("slots of " + text, rows + columns, x.slots());
                    Check.due("the last cell of " + text, 0, x.square(rows * columns - 1));
                    Check.due("none behind it of " + text, NONE, x.square(rows * columns));
                }
            }
        }
    }

    /** "3 by 3 if not told", also behind a GRID of another size. */
    private static void sizeNotTold() {
        GridLaws x = Check.of("size 4 by 5;");
        Check.due("acts", 1, Check.grid(x, "act ab;"));
        Check.due("rows", 3, x.about(2));
        Check.due("columns", 3, x.about(3));
        Check.due("no cell 9", NONE, x.square(9));
    }

    /** "once" */
    private static void sizeOnce() {
        fault(2, "size 2 by 2;^size 2 by 2;");
        fault(2, "size 2 by 2;^size 3 by 3;");
        fault(2, "size 2 by 2;^size");
    }

    /** "ahead of all others" */
    private static void sizeAhead() {
        for (String line : new String[] {"party p;", "act ab;", "black 0 0;", "force 1;"}) {
            fault(2, line + "^size 3 by 3;");
            good(line.startsWith("act") ? 1 : 0, "size 3 by 3;" + line);
        }
        fault(2, acts(2) + "if xa and xb then xa;^size 3 by 3;");
        fault(2, acts(2) + "never xa xb;^size 3 by 3;");
    }

    /** "at most 3 PARTIES": 0, 3 and 4. */
    private static void parties() {
        about("", 1, 0);
        about("party a;party b;", 1, 2);
        about("party a;party b;party c;", 1, 3);
        fault(2, "party a;party b;party c;^party d;");
        fault(2, "party a;party b;act ab;party c;force 1;^party d;");
        fault(2, "party a;party b;party c;^party a;");
        fault(2, "party a;party b;party c;^party");
    }

    /** "16 ACTS": 0, 15, 16 and 17. */
    private static void acts() {
        good(0, "");
        good(15, acts(15));
        good(16, acts(16));
        fault(2, acts(16) + "^act zz;");
        fault(2, acts(16) + "^act xa;");
        fault(2, acts(16) + "^act a;");
        good(16, acts(16) + "party p;");
    }

    /** "3 a NAME told already (of its sort" */
    private static void namesToldAlready() {
        fault(3, "act ab;act ^ab;");
        fault(3, acts(15) + "act ^xa;");
        fault(3, acts(15) + "act ^xo p 1;");
        fault(3, "party ab;party ^ab;");
        fault(3, "party a;act ab;party ^a;");
        good(1, "party ab;act ab;");
        good(1, "act ab;party ab;");
        good(3, "act ab;act ba;act abb;");
    }

    /** "(a NAME of 2 .. 5 letters": 1 to 9 letters. */
    private static void lettersOfAnAct() {
        for (int length = 1; length <= 9; length++) {
            String name = "abcdefghi".substring(0, length);
            if (length == 9) {
                fault(1, "act ^" + name + ";");
            } else if (length < 2 || length > 5) {
                fault(4, "act ^" + name + ";");
            } else {
                good(1, "act " + name + ";");
            }
        }
    }

    /** "behind it PARTIES told ahead" */
    private static void partiesToldAhead() {
        fault(5, "act ab ^p 1;");
        fault(5, "act ab ^p 1;party p;");
        fault(5, "party q;act ab q 1 ^p 1;party p;");
        good(1, "party p;act ab p 1;");
        good(2, "act ab;party p;act cd p 1;");
    }

    /** "each once": none, one, all three in any order; a second time even with the same number. */
    private static void eachPartyOnce() {
        String three = "party a;party b;party c;";
        good(1, three + "act ab;");
        good(1, three + "act ab c 1 a 2 b 3;");
        fault(3, three + "act ab a 1 ^a 1;");
        fault(3, three + "act ab c 1 a 2 b 3 ^c 1;");
        fault(3, three + "act ab c 1 a 2 b 3 ^a;");
        fault(5, three + "act ab c 1 a 2 b 3 ^d 1;");
        good(2, three + "act ab a 1;act cd a 1;");
    }

    /** "with what they want of it, -9 .. 9" */
    private static void wants() {
        for (int want = -12; want <= 12; want++) {
            String value = want < 0 ? "-" + -want : "" + want;
            if (want < -9 || want > 9) {
                fault(4, "party p;act ab p ^" + value + ";");
            } else {
                Check.due("wants " + value, want, Check.of("party p;act ab p " + value + ";").wants(0, 0));
            }
        }
        fault(4, "party p;act ab p ^9999;");
        fault(4, "party p;act ab p ^-9999;");
        Check.due("wants -0", 0, Check.of("party p;act ab p -0;").wants(0, 0));
        Check.due("wants - 0009", -9, Check.of("party p;act ab p - 0009;").wants(0, 0));
    }

    /** "0 if not told", also where an ACT of an earlier GRID had another number. */
    private static void wantsNotTold() {
        GridLaws x = Check.of("party p;party q;act ab p 9 q -9;");
        Check.grid(x, "party p;party q;act ab q 1;act cd;");
        Check.due("not told", 0, x.wants(0, 0));
        Check.due("told", 1, x.wants(1, 0));
        Check.due("not told", 0, x.wants(0, 1));
        Check.due("not told", 0, x.wants(1, 1));
    }

    private static String black(int columns, int count) {
        StringBuilder all = new StringBuilder();
        for (int i = 0; i < count; i++) {
            all.append("black ").append(i / columns).append(' ').append(i % columns).append(';');
        }
        return all.toString();
    }

    /** "8 black CELLS": 7, 8 and 9. */
    private static void blackCells() {
        about(black(3, 0), 5, 0);
        about(black(3, 7), 5, 7);
        about(black(3, 8), 5, 8);
        fault(2, black(3, 8) + "^black 2 2;");
        fault(2, black(3, 8) + "^black 0 0;");
        fault(2, "size 4 by 5;" + black(5, 8) + "^black 3 4;");
        about("size 2 by 2;" + black(2, 4), 5, 4);
    }

    /** "(its row, its column": from 0 to ROWS - 1, and to COLUMNS - 1, of each size. */
    private static void rowsOfBlackCells() {
        for (int rows = 2; rows <= 4; rows++) {
            for (int columns = 2; columns <= 5; columns++) {
                String size = "size " + rows + " by " + columns + ";";
                GridLaws x = Check.of(size + "black " + (rows - 1) + " " + (columns - 1) + ";black 0 0;");
                Check.due("the last cell is black", 27, x.square(rows * columns - 1));
                Check.due("the first cell is black", 27, x.square(0));
                Check.due("two are", 2, x.about(5));
                fault(4, size + "black ^" + rows + " 0;");
                fault(4, size + "black 0 ^" + columns + ";");
                fault(4, size + "black ^" + rows + " " + columns + ";");
            }
        }
        GridLaws x = Check.of("size 2 by 5;black 1 0;");
        Check.due("row * columns + column", 27, x.square(5));
        Check.due("not the other way", 0, x.square(1));
        fault(2, "black ^-1 0;");
    }

    /** "each told once)" */
    private static void blackCellsOnce() {
        fault(3, "black 0 1;black 0 ^1;");
        fault(3, "black 2 2;black 0 0;black 2 ^2;");
        fault(3, "black 0 1;black 0000 ^0001;");
        about("black 0 1;black 1 0;black 0 0;black 1 1;", 5, 4);
    }

    private static String ifs(int from, int to) {
        StringBuilder all = new StringBuilder();
        for (int i = from; i < to; i++) {
            all.append("if ").append(act(i)).append(" and ").append(act(i + 1)).append(" then xa;");
        }
        return all.toString();
    }

    private static String nevers(int from, int to) {
        StringBuilder all = new StringBuilder();
        for (int i = from; i < to; i++) {
            all.append("never ").append(act(i)).append(' ').append(act(i + 1)).append(';');
        }
        return all.toString();
    }

    /** "8 ifs": 0, 7, 8 and 9. */
    private static void ifs() {
        about(acts(10), 6, 0);
        about(acts(10) + ifs(0, 7), 6, 7);
        about(acts(10) + ifs(0, 8), 6, 8);
        fault(2, acts(10) + ifs(0, 8) + "^" + ifs(8, 9));
        fault(2, acts(10) + ifs(0, 8) + "^" + ifs(0, 1));
    }

    /** "8 nevers": 0, 7, 8 and 9, whatever ifs there are. */
    private static void nevers() {
        about(acts(10), 7, 0);
        about(acts(10) + nevers(0, 7), 7, 7);
        about(acts(10) + nevers(0, 8), 7, 8);
        fault(2, acts(10) + nevers(0, 8) + "^" + nevers(8, 9));
        fault(2, acts(10) + nevers(0, 8) + "^" + nevers(0, 1));
        about(acts(10) + ifs(0, 8) + nevers(0, 8), 6, 8);
        about(acts(10) + ifs(0, 8) + nevers(0, 8), 7, 8);
    }

    /** "(of ACTS told ahead" */
    private static void actsToldAhead() {
        fault(5, "act xa;if ^xb and xa then xa;act xb;");
        fault(5, "act xa;if xa and ^xb then xa;act xb;");
        fault(5, "act xa;act xb;if xa and xb then ^xc;act xc;");
        fault(5, "act xa;never ^xb xa;act xb;");
        fault(5, "act xa;never xa ^xb;act xb;");
        fault(5, "party p;act xa;never xa ^p;");
        good(2, "act xa;act xb;never xa xb;if xa and xb then xb;");
    }

    /** "the first two of each unlike": the third of an if may be one of them. */
    private static void firstTwoUnlike() {
        fault(3, acts(2) + "if xa and ^xa then xb;");
        fault(3, acts(2) + "never xa ^xa;");
        good(2, acts(2) + "if xa and xb then xa;");
        good(2, acts(2) + "if xa and xb then xb;");
    }

    /** "each two once in whichever order among its sort)" */
    private static void eachTwoOnce() {
        fault(3, acts(3) + "if xa and xb then xc;if xa and ^xb then xa;");
        fault(3, acts(3) + "if xa and xb then xc;if xb and ^xa then xa;");
        fault(3, acts(3) + "never xa xb;never xa ^xb;");
        fault(3, acts(3) + "never xa xb;never xc xb;never xb ^xa;");
        good(3, acts(3) + "if xa and xb then xc;if xa and xc then xc;if xb and xc then xc;");
        good(3, acts(3) + "never xa xb;never xa xc;never xc xb;");
        good(3, acts(3) + "never xa xb;if xb and xa then xa;");
    }

    /** "numbered as told, each sort by itself" */
    private static void numberedAsTold() {
        GridLaws x = Check.of("act cd;party q;act ab q 1;party p;act ef p 3 q 2;");
        Check.due("ef is act 2, q is party 0", 2, x.wants(0, 2));
        Check.due("p is party 1", 3, x.wants(1, 2));
        Check.due("ab is act 1", 1, x.wants(0, 1));
        Check.due("cd is act 0", 0, x.wants(0, 0));
        good(1, "party ab;act ab ab 1;");
    }

    /** "force once" */
    private static void forceOnce() {
        good(0, "force 1;");
        fault(2, "force 1;^force 1;");
        fault(2, "force 1;party p;^force 2;");
        fault(2, "force 1;^force");
    }

    /** "30 in one e": 1, 29, 30 and 31 (one formula alone can be told, so 60 in all are never met). */
    private static void units() {
        about("force 1;", 13, 1);
        for (String unit : new String[] {"1", "9999", "long", "vowels", "across", "line", "year", "meets"}) {
            about("force " + (unit + "+").repeat(28) + unit + ";", 13, 29);
            about("force " + (unit + "+").repeat(29) + unit + ";", 13, 30);
            fault(2, "force " + (unit + "+").repeat(30) + "^" + unit + ";");
        }
        for (String sign : new String[] {"+", "-", "*", "/", "%", " and ", " or "}) {
            about("force " + ("1" + sign).repeat(29) + "1;", 13, 30);
            fault(2, "force " + ("1" + sign).repeat(30) + "^1;");
        }
        // Fourteen pairs that are compared, and two more, are thirty.
        about("force " + "1<1 and ".repeat(14) + "1=1;", 13, 30);
        fault(2, "force " + "1<1 and ".repeat(15) + "^1=1;");
        fault(2, "force " + "1<1 and ".repeat(14) + "1 and 1=^1;");
        fault(2, "force " + "not 1 and ".repeat(30) + "not ^1;");
    }

    /** A unit ( e ) counts, and so does each unit in it. */
    private static void unitsInBrackets() {
        about("force (1);", 13, 2);
        about("force ((1));", 13, 3);
        about("force (1+1)*(1);", 13, 5);
        about("force " + "(1)+".repeat(14) + "1;", 13, 29);
        about("force " + "(1)+".repeat(14) + "(1);", 13, 30);
        fault(2, "force " + "(1)+".repeat(15) + "^1;");
        fault(2, "force " + "(1)+".repeat(15) + "^(1);");
        fault(2, "force 1+" + "(1)+".repeat(14) + "(^1);");
        about("force (" + "1+".repeat(28) + "1);", 13, 30);
        fault(2, "force (" + "1+".repeat(29) + "^1);");
    }

    /** "(a unit ( e ) .. within 6 others at most)": 6, 7 and 8 into one another. */
    private static void brackets() {
        good(0, "force " + "(".repeat(6) + "1" + ")".repeat(6) + ";");
        good(0, "force " + "(".repeat(7) + "1" + ")".repeat(7) + ";");
        fault(2, "force " + "(".repeat(7) + "^(1" + ")".repeat(8) + ";");
        // Those that are closed already hold nothing.
        good(0, "force " + "(((((((1)))))))+(((((((1)))))))+(((((((1)))))));");
        good(0, "force " + "((((((1+(1)+(1)))))));");
        fault(2, "force " + "(((((((1))))+((((^(1))))))));");
    }

    /** "or a one behind not, within 6 others at most": 6, 7 and 8 behind one another. */
    private static void nots() {
        good(0, "force " + "not ".repeat(6) + "1;");
        good(0, "force " + "not ".repeat(7) + "1;");
        fault(2, "force " + "not ".repeat(7) + "^not 1;");
        // A not that is joined to others is not within these.
        good(0, "force " + "not ".repeat(7) + "1 and " + "not ".repeat(7) + "1 or " + "not ".repeat(7) + "1;");
        fault(2, "force " + "not ".repeat(7) + "1 and " + "not ".repeat(7) + "^not 1;");
    }

    /** Brackets and nots count together. */
    private static void bracketsAndNots() {
        good(0, "force not(not(not(not 1)));");
        fault(2, "force not(not(not(not ^(1))));");
        fault(2, "force not(not(not(not ^(not 1))));");
        good(0, "force (not(not(not(1))));");
        fault(2, "force (not(not(not(^not 1))));");
        good(0, "force not not not not not not(1);");
        fault(2, "force not not not not not not not ^(1);");
        good(0, "force ((((((not 1))))));");
        fault(2, "force (((((((^not 1)))))));");
        // What a not has behind a relation sign is its one, too.
        good(0, "force not not not not not not 1<(1);");
        fault(2, "force not not not not not not not 1<^(1);");
        good(0, "force not not not not not not not 1 and (1);");
    }

    /** A formula that ends where a unit must stand: the sign that ends the line can't stand there. */
    private static void formulasCutShort() {
        for (String ahead : new String[] {"", "not ", "1 or ", "1 and ", "1<", "1>", "1=", "1+", "1-", "1*", "1/", "1%",
            "(1)*", "not 1 and not ", "1 or 1 and ", "1+1*"}) {
            fault(2, "force " + ahead + "^;");
            fault(2, "force (" + ahead + "^);");
            fault(2, "force " + ahead + "(^);");
            fault(2, "force " + ahead + "1^);");
            fault(2, "force (" + ahead + "1^;");
            good(0, "force " + ahead + "1;");
            good(0, "force (" + ahead + "1);");
        }
    }

    /** "FAULTS, the first by its place (bytes from 0": of many the one that comes first. */
    private static void firstByItsPlace() {
        fault(1, "^!");
        fault(2, "^zz");
        fault(2, "^;!");
        fault(4, "act ^a;act a;!");
        fault(3, "party p;party ^p;size 9;");
        fault(5, "never ^xa xa;");
        fault(4, "black ^9 9;");
        fault(4, "size ^9 by 9;");
        fault(2, "size 2 ^2 by !");
        fault(2, "party ^3!");
        // What is behind the first FAULT may be anything.
        for (String rest : new String[] {"", "!", ";", "size", " \n", "abcdefghi", "99999"}) {
            fault(4, "act ^a " + rest);
        }
    }

    /** "the end: the text's length)": with blanks at the end, too. */
    private static void theEnd() {
        fault(2, "party^");
        fault(2, "party ^");
        fault(2, "party \n\n ^");
        fault(2, "party p^");
        fault(2, "force 1^");
        fault(2, "force 1\n^");
        fault(2, "party p;act ab p^");
        fault(2, "party p;act ab p -^");
        fault(2, "size 2 by 2 ^");
        fault(2, "force (1^");
        fault(2, "force not ^");
        fault(2, "force " + "1+".repeat(30) + "^");
    }

    /** "at one place the least": what is no TOKEN is 1, whatever was waited for. */
    private static void atOnePlaceTheLeast() {
        for (String ahead : new String[] {"", "size ", "size 2 ", "size 2 by ", "size 2 by 2 ", "party ", "act ",
            "act ab ", "party p;act ab p ", "party p;act ab p -", "black ", "black 0 ", "act ab;if ", "act ab;if ab ",
            "act ab;if ab and ", "act ab;never ", "act ab;never ab ", "force ", "force not ", "force (", "force 1 ",
            "force 1+", "force 1<", "force (1 ", "force " + "1+".repeat(30), "force " + "(".repeat(7)}) {
            fault(1, ahead + "^!");
            fault(1, ahead + "^abcdefghi");
            fault(1, ahead + "^12345");
            fault(1, ahead + "^1a");
        }
    }

    /** "one of a sort too many, a second time, size behind another line: at the line's first word" */
    private static void atTheLinesFirstWord() {
        fault(2, "party a;party b;party c;\n ^party !");
        fault(2, acts(16) + " \n^act a;");
        fault(2, black(3, 8) + "\n^black 9 9;");
        fault(2, acts(10) + ifs(0, 8) + " ^if zz and zz then zz;");
        fault(2, acts(10) + nevers(0, 8) + " ^never zz zz;");
        fault(2, "force 1; ^force !;");
        fault(2, "party p; ^size 9 by 9;");
    }

    /** "4 a number that can't be (of V at its sign, if it has one)" */
    private static void valueAtItsSign() {
        fault(4, "party p;act ab p ^10;");
        fault(4, "party p;act ab p ^-10;");
        fault(4, "party p;act ab p ^-  \n 10;");
        fault(4, "party p;act ab p^-10;");
        fault(2, "party p;act ab p - ^;");
        fault(2, "party p;act ab p - ^-1;");
        fault(1, "party p;act ab p - ^10000;");
    }

    /** All limits at once: 3 PARTIES, 16 ACTS, 8 of each other sort, and 30 units within 1,600 bytes. */
    private static void allowedTogether() {
        StringBuilder text = new StringBuilder("size 4 by 5;party abcdefgh;party b;party c;");
        for (int i = 0; i < 16; i++) {
            text.append("act xxx").append((char) ('a' + i)).append("y abcdefgh -9 b 9 c-9;");
        }
        for (int i = 0; i < 8; i++) {
            String two = "xxx" + (char) ('a' + i) + "y %sxxx" + (char) ('b' + i) + "y";
            text.append("if ").append(String.format(two, "and ")).append(" then xxxay;");
            text.append("never ").append(String.format(two, "")).append(';');
        }
        text.append(black(5, 8)).append("force ").append("1+".repeat(29)).append("1;");
        GridLaws x = Check.of(text.toString());
        int[] due = {16, 3, 4, 5, 0, 8, 8, 8, 0, 0, 0, 0, 0, 30, 0};
        for (int what = 0; what < due.length; what++) {
            Check.due("all limits: about(" + what + ")", due[what], x.about(what));
        }
        Check.due("what the last wants of the last", -9, x.wants(2, 15));
    }
}
