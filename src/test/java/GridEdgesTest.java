/**
 * The edges that "Terms", parts 2 to 4, name: CELLS, SLOTS, FORCE, what FOLLOWS, ACTS OF ALL, FILLINGS
 * and what is found among them, SIGHTS. Each method stands for the words of the document above it.
 */
public final class GridEdgesTest {
    private static final int NONE = GridLaws.NONE;
    private static final int SPENT = GridLaws.SPENT;
    private static final int GAP = GridLaws.GAP;

    /** SLOTS 0 and 1 across, 2 and 3 down, around one black CELL: abc over fgh, adf and ceh. */
    private static final String RING = "size 3 by 3;black 1 1;";
    /** One SLOT alone. */
    private static final String ROW = "size 2 by 3;black 1 0;black 1 1;black 1 2;";
    /** FILLINGS: at so over as to, and as to over at so. */
    private static final String SQUARE = "size 2 by 2;act at;act so;act as;act to;";
    /** Of these ACTS exactly 20,000, and 20,001, are TRIED in a GRID of 4 by 4; 4 and 2 FILLINGS are found. */
    private static final String TRIED_20000 = "bbdb ccbd badb bddb bcbb bcad dbdd bdbb bbbc acdb accb adca cbca";
    private static final String TRIED_20001 = "cbdb bcaa bbad dbdc cbbd bcbb daad badc daac cdbb dcbc bcdc aaad";

    public static void main(String[] args) {
        numbersOfCells();
        slotsOfTwoAndMore();
        slotsByFirstCells();
        slotsOfAllWays();
        asManyLetters();
        blankOrItsLetter();
        allItsLetters();
        forceNotTold();
        forceAtLeastAndAtMost();
        intsThatWrap();
        cutAndRest();
        byZero();
        relations();
        ofWhatIsNotZero();
        longestFormulas();
        longOfAnAct();
        vowels();
        acrossAndLine();
        yearAtFirst();
        meets();
        worthOverAllSlots();
        ifsThatCross();
        oneOfBothNotInForce();
        againAndAgain();
        againstBoth();
        writtenOnce();
        eightBlackOnes();
        moreThanZero();
        likeOnesTheFirst();
        moduloParties();
        fortyKept();
        redoTillAnother();
        eachActToOneSlot();
        theirsNow();
        moreThan20000();
        bestOfLikeOnes();
        spanOfOne();
        fewestLetters();
        playOfTwo();
        capital();
        thirtySights();
        toldAndUntold();
        lettersSeen();
        cellsWithoutLetters();
        printsOfTheEmptyGrid();
        sureInAll();
        askOfLikeOnes();
        Check.finish("GridEdgesTest");
    }

    private static void due(String call, long want, long got) {
        Check.due(call, want, got);
    }

    /** "A CELL (its number: row * COLUMNS + column)" */
    private static void numbersOfCells() {
        GridLaws x = Check.of("size 2 by 5;act abcde;act fghij;");
        x.write(0, 0);
        x.write(1, 1);
        for (int cell = 0; cell < 10; cell++) {
            due("letter of cell " + cell, cell + 1, x.square(cell));
        }
        x = Check.of("size 4 by 2;act ab;act cd;act ef;act gh;");
        for (int row = 0; row < 4; row++) {
            x.write(row, row);
        }
        for (int cell = 0; cell < 8; cell++) {
            due("letter of cell " + cell, cell + 1, x.square(cell));
        }
    }

    private static void slots(String text, int... firstsAndLengths) {
        GridLaws x = Check.of(text);
        due("slots of " + text, firstsAndLengths.length / 2, x.slots());
        for (int slot = 0; slot < firstsAndLengths.length / 2; slot++) {
            due("first of slot " + slot + " of " + text, firstsAndLengths[2 * slot], x.slot(slot, 0));
            due("length of slot " + slot + " of " + text, firstsAndLengths[2 * slot + 1], x.slot(slot, 1));
        }
    }

    /** "SLOTS: rows of 2 CELLS and more .. none black, ended by black ones or the GRID's edge" */
    private static void slotsOfTwoAndMore() {
        slots("size 2 by 2;", 0, 2, 2, 2, 0, 2, 1, 2);
        slots("size 2 by 2;black 0 0;", 2, 2, 1, 2);
        slots("size 2 by 2;black 1 1;", 0, 2, 0, 2);
        slots("size 2 by 2;black 0 0;black 0 1;", 2, 2);
        slots("size 2 by 2;black 0 0;black 1 0;", 1, 2);
        slots("size 2 by 2;black 0 0;black 1 1;");
        slots("size 2 by 2;black 0 0;black 0 1;black 1 0;");
        slots("size 2 by 2;black 0 0;black 0 1;black 1 0;black 1 1;");
        slots("size 2 by 5;black 0 1;black 0 3;", 5, 5, 0, 2, 2, 2, 4, 2);
        slots("size 2 by 5;black 0 2;", 0, 2, 3, 2, 5, 5, 0, 2, 1, 2, 3, 2, 4, 2);
        slots("size 2 by 5;black 0 1;", 2, 3, 5, 5, 0, 2, 2, 2, 3, 2, 4, 2);
        slots("size 2 by 5;black 0 4;", 0, 4, 5, 5, 0, 2, 1, 2, 2, 2, 3, 2);
        slots("size 4 by 2;black 3 0;", 0, 2, 2, 2, 4, 2, 0, 3, 1, 4);
    }

    /** "first those across, by first CELLS, then those down, by first CELLS" */
    private static void slotsByFirstCells() {
        slots("size 4 by 2;black 1 0;", 0, 2, 4, 2, 6, 2, 1, 4, 4, 2);
        slots("size 4 by 2;black 0 0;", 2, 2, 4, 2, 6, 2, 1, 4, 2, 3);
        // A row goes on to the edge alone: cells 2 and 3 are no slot of a grid of 3 columns.
        slots("size 2 by 3;black 0 0;black 0 1;", 3, 3, 2, 2);
    }

    private static int plainSlots(int black, int rows, int columns, boolean down) {
        int count = 0;
        for (int line = 0; line < (down ? columns : rows); line++) {
            int run = 0;
            for (int i = 0; i < (down ? rows : columns); i++) {
                int cell = down ? i * columns + line : line * columns + i;
                run = (black >> cell & 1) == 0 ? run + 1 : 0;
                count += run == 2 ? 1 : 0;
            }
        }
        return count;
    }

    /** All ways to have at most 8 black ones, in each size of GRID: nowhere too many SLOTS. */
    private static void slotsOfAllWays() {
        for (int rows = 2; rows <= 4; rows++) {
            for (int columns = 2; columns <= 5; columns++) {
                GridLaws x = Check.of("size " + rows + " by " + columns + ";");
                blackenOn(x, 0, 0, rows, columns);
                due("all is undone", 0, x.about(5));
            }
        }
    }

    private static void blackenOn(GridLaws x, int from, int black, int rows, int columns) {
        int slots = plainSlots(black, rows, columns, false) + plainSlots(black, rows, columns, true);
        due("slots with black " + black + " of " + rows + " by " + columns, slots, x.slots());
        if (Integer.bitCount(black) == 8) {
            due("no ninth", NONE, x.blacken(Integer.numberOfTrailingZeros(~black)));
            return;
        }
        for (int cell = from; cell < rows * columns; cell++) {
            x.blacken(cell);
            blackenOn(x, cell + 1, black | 1 << cell, rows, columns);
            x.undo();
        }
    }

    /** "An ACT FITS a SLOT, if it has as many letters as CELLS": one letter less or more does not. */
    private static void asManyLetters() {
        GridLaws x = Check.of("size 3 by 4;act ab;act abc;act abcd;act abcde;");
        due("across", 4, x.fits(0));
        due("down", 2, x.fits(3));
        due("places of two letters", 0, x.places(0));
        due("places of three letters", 120, x.places(1));
        due("places of four letters", 7, x.places(2));
        due("places of five letters", 0, x.places(3));
        due("one letter less", NONE, x.write(1, 0));
        due("one letter more", NONE, x.write(2, 3));
    }

    /** "and each CELL is blank or has its letter there" */
    private static void blankOrItsLetter() {
        GridLaws x = Check.of(ROW + "act abc;act xbc;act axc;act abx;");
        due("all are blank", 15, x.fits(0));
        x.write(0, 0);
        due("all have letters", 1, x.fits(0));
        x.strike(0);
        due("the first is blank", 3, x.fits(0));
        x.strike(2);
        due("two are blank", 11, x.fits(0));
        x.strike(1);
        due("all are blank again", 15, x.fits(0));
    }

    /** "It is IN FORCE, if some SLOT has all its letters" */
    private static void allItsLetters() {
        for (int cell = 0; cell < 3; cell++) {
            GridLaws x = Check.of(ROW + "act abc;act ab;act bc;act abcd;");
            x.write(0, 0);
            due("all letters, and of no other act", 1, x.force());
            x.strike(cell);
            due("all but one", 0, x.force());
        }
        // Letters that others brought will do.
        GridLaws x = Check.of("size 2 by 2;act ab;act cd;act ac;act bd;");
        x.write(0, 0);
        x.write(1, 1);
        due("two that were written, two that came", 15, x.force());
        due("what came is not written again", NONE, x.write(2, 2));
    }

    private static int force(String formula) {
        GridLaws x = Check.of(ROW + "act abc;force " + formula + ";");
        x.write(0, 0);
        return x.slot(0, 4);
    }

    private static void force(int want, String formula) {
        due("force " + formula, want, force(formula));
    }

    /** "what comes of force (1, if it is not told)"; "4: its FORCE (0 without an ACT)" */
    private static void forceNotTold() {
        GridLaws x = Check.of(ROW + "act abc;");
        due("without an act", 0, x.slot(0, 4));
        x.write(0, 0);
        due("with one", 1, x.slot(0, 4));
        x.strike(0);
        due("without one again", 0, x.slot(0, 4));
        x = Check.of(ROW + "act abc;force 7;");
        due("without an act", 0, x.slot(0, 4));
        Check.grid(x, ROW + "act abc;");
        x.write(0, 0);
        due("a grid in which it is not told comes behind", 1, x.slot(0, 4));
    }

    /** "0 at least, 99 at most" */
    private static void forceAtLeastAndAtMost() {
        force(0, "0-9999");
        force(0, "0-2");
        force(0, "0-1");
        force(0, "0");
        force(1, "1");
        force(98, "98");
        force(99, "99");
        force(99, "100");
        force(99, "9999");
        // Only what comes of the whole is held within these.
        force(1, "(0-9)+10");
        force(5, "1000-995");
    }

    /** "(ints, wrapping" */
    private static void intsThatWrap() {
        force(99, "2048*1024*1024-1");
        force(0, "2048*1024*1024");
        force(1, "2048*1024*1024<0");
        force(99, "0-2048*1024*1024-1");
        force(0, "0-2048*1024*1024");
        force(5, "4096*1024*1024+5");
        force(1, "2048*1024*1024-1>2048*1024*1024");
        force(1, "2048*1024*1024-1+1=2048*1024*1024");
        // The least int by -1 is itself, its rest 0.
        force(1, "2048*1024*1024/(0-1)=2048*1024*1024");
        force(7, "2048*1024*1024%(0-1)+7");
    }

    /** "/ cut, % its rest" */
    private static void cutAndRest() {
        force(0, "1/2");
        force(1, "2/2");
        force(1, "3/2");
        force(7, "(0-7)/2+10");
        force(7, "7/(0-2)+10");
        force(3, "(0-7)/(0-2)");
        force(10, "(0-1)/2+10");
        force(1, "7%2");
        force(0, "8%2");
        force(9, "(0-7)%2+10");
        force(1, "7%(0-2)");
        force(9, "(0-7)%(0-2)+10");
    }

    /** "both by 0: 0" */
    private static void byZero() {
        force(0, "7/0");
        force(0, "7%0");
        force(3, "7/0+3");
        force(3, "7%0+3");
        force(2, "0/0+2");
        force(2, "0%0+2");
        force(4, "7/(long-3)+4");
        force(4, "(0-7)%year+4");
        force(7, "7/1");
        force(10, "7/(0-1)+17");
    }

    /** "relations .. are 1 or 0": less, like and more. */
    private static void relations() {
        String[] pairs = {"1 2", "2 2", "3 2", "(0-1) 0", "0 0", "0 (0-1)"};
        for (int i = 0; i < pairs.length; i++) {
            String[] two = pairs[i].split(" ");
            force(i % 3 == 0 ? 1 : 0, two[0] + "<" + two[1]);
            force(i % 3 == 1 ? 1 : 0, two[0] + "=" + two[1]);
            force(i % 3 == 2 ? 1 : 0, two[0] + ">" + two[1]);
            force(i % 3 == 0 ? 11 : 10, "10+(" + two[0] + "<" + two[1] + ")");
            force(i % 3 == 1 ? 11 : 10, "10+(" + two[0] + "=" + two[1] + ")");
            force(i % 3 == 2 ? 11 : 10, "10+(" + two[0] + ">" + two[1] + ")");
        }
    }

    /** "and, or, not are 1 or 0, of what is not 0)" */
    private static void ofWhatIsNotZero() {
        force(1, "2 and 4");
        force(1, "(0-1) and 1");
        force(0, "0 and 4");
        force(0, "4 and 0");
        force(0, "0 or 0");
        force(1, "0 or 4");
        force(1, "4 or 0");
        force(1, "(0-1) or (0-1)");
        force(1, "not 0");
        force(0, "not 1");
        force(0, "not 2");
        force(0, "not (0-1)");
        force(0, "not 2048*1024*1024");
        force(1, "not 4096*1024*1024");
        force(10, "10+(0 and 4)");
        force(11, "10+(4 and 4)");
        force(10, "10+(0 or 0)");
        force(11, "10+(4 or 4)");
        force(10, "10+(not 4)");
        force(11, "10+(not 0)");
    }

    /** The longest formulas that the text allows are taken whole: 30 units, and 7 nots ahead of each. */
    private static void longestFormulas() {
        String nots = "not ".repeat(7);
        force(1, (nots + "1 or ").repeat(29) + nots + "0");
        force(0, (nots + "1 or ").repeat(29) + nots + "1");
        force(1, (nots + "0 and ").repeat(29) + nots + "0");
        force(0, (nots + "0 and ").repeat(29) + nots + "1");
        force(30, "1+".repeat(29) + "1");
        force(8, "1+(1+(1+(1+(1+(1+(1+(1)))))))");
    }

    /** "long (its letters)": 2 to 5, across and down. */
    private static void longOfAnAct() {
        for (int length = 2; length <= 5; length++) {
            GridLaws x = Check.of("size 2 by " + length + ";act " + "abcde".substring(0, length) + ";force long;");
            x.write(0, 0);
            due("long across", length, x.slot(0, 4));
        }
        for (int length = 2; length <= 4; length++) {
            GridLaws x = Check.of("size " + length + " by 5;act " + "abcd".substring(0, length) + ";force long;");
            x.write(0, length);
            due("long down", length, x.slot(length, 4));
        }
    }

    /** "vowels (a, e, i, o, u among them)": none, each, all, one that is there twice. */
    private static void vowels() {
        String[] words = {"bcdfg", "hjklm", "npqrs", "tvwxy", "zbcdf", "abcdf", "bcdfe", "bcidf", "obcdf", "bcduf",
            "aeiou", "abada", "uuuuu"};
        int[] due = {0, 0, 0, 0, 0, 1, 1, 1, 1, 1, 5, 3, 5};
        for (int i = 0; i < words.length; i++) {
            GridLaws x = Check.of("size 2 by 5;act " + words[i] + ";force vowels;");
            x.write(0, 0);
            due("vowels of " + words[i], due[i], x.slot(0, 4));
        }
    }

    /** "across (1, or 0), line (its ROW, or COLUMN)": the first and the last of both. */
    private static void acrossAndLine() {
        for (int slot = 0; slot < 9; slot++) {
            GridLaws x = Check.of("size 4 by 5;act abcd;act abcde;force 10*across+line;");
            x.write(slot < 4 ? 1 : 0, slot);
            due("way and line of slot " + slot, slot < 4 ? 10 + slot : slot - 4, x.slot(slot, 4));
        }
        // The slot's own column, not how many slots down are ahead of it.
        GridLaws x = Check.of("size 2 by 5;black 0 0;black 0 1;act ab;force line;");
        x.write(0, 2);
        due("the first slot down is in column 2", 2, x.slot(2, 4));
    }

    /** "year (0 at first)" */
    private static void yearAtFirst() {
        GridLaws x = Check.of(ROW + "act abc;force year;");
        x.write(0, 0);
        for (int year = 0; year < 4; year++) {
            due("force by year", year, x.slot(0, 4));
            due("year", year, x.about(4));
            x.sitting();
        }
        Check.grid(x, ROW + "act abc;force year;");
        due("0 in a new grid", 0, x.about(4));
    }

    private static void meets(String black, int want) {
        GridLaws x = Check.of("size 2 by 3;" + black + "act abc;force meets;");
        x.write(0, 0);
        due("meets with " + black, want, x.slot(0, 5));
        due("force by meets with " + black, want, x.slot(0, 4));
    }

    /** "meets (how many of its CELLS are in a SLOT of the other way)": none, one, two, all. */
    private static void meets() {
        meets("", 3);
        meets("black 1 1;", 2);
        meets("black 1 0;black 1 2;", 1);
        meets("black 1 0;black 1 1;black 1 2;", 0);
    }

    /** "A PARTY's WORTH: over all SLOTS with an ACT the FORCE times what it wants of that ACT" */
    private static void worthOverAllSlots() {
        GridLaws x = Check.of(ROW + "party p;party q;party r;act abc p 9 q -9;force 9999;");
        due("no act", 0, x.worth(0));
        x.write(0, 0);
        due("the most of a slot", 891, x.worth(0));
        due("the least of a slot", -891, x.worth(1));
        due("what it does not want", 0, x.worth(2));
        // An act in two slots counts in both.
        x = Check.of("size 2 by 2;party p;act ab p 3;act aa;act bb;");
        x.write(0, 2);
        due("one slot", 3, x.worth(0));
        x.write(1, 0);
        x.write(2, 1);
        due("ab stands twice", 6, x.worth(0));
    }

    private static final String RING_ACTS = RING + "act abc;act fgh;act adf;act ceh;act xxx;act yyy;";

    /** "both IN FORCE in SLOTS that cross (have a CELL in both)" */
    private static void ifsThatCross() {
        GridLaws x = Check.of(RING_ACTS + "if adf and abc then xxx;if fgh and abc then yyy;");
        due("nothing is in force", 0, x.follows());
        x.write(0, 0);
        due("one of both", 1, x.follows());
        x.write(1, 1);
        due("both, but they do not cross", 3, x.follows());
        x.write(2, 2);
        due("both cross", 1 + 2 + 4 + 16, x.follows());
        x.strike(3);
        due("one of both again", 3, x.follows());
        // One across and one down, each crossed by another, but not by one another.
        x = Check.of("size 2 by 5;black 0 2;black 1 2;act ab;act ac;act de;act df;act xx;if ab and df then xx;");
        due("across at 3", 3, x.slot(1, 0));
        due("down at 3", 3, x.slot(6, 0));
        x.write(0, 0);
        x.write(1, 4);
        x.write(2, 1);
        x.write(3, 6);
        due("four are in force", 15, x.force());
        due("nothing more", 15, x.follows());
    }

    /** "or one of both is not IN FORCE itself" */
    private static void oneOfBothNotInForce() {
        GridLaws x = Check.of(RING_ACTS + "if abc and adf then fgh;if abc and fgh then xxx;if xxx and fgh then yyy;");
        x.write(0, 0);
        due("nothing more", 1, x.follows());
        x.write(2, 2);
        due("fgh follows, is not in force; xxx and fgh both are not", 1 + 4 + 2 + 16 + 32, x.follows());
        x.write(1, 1);
        due("fgh is in force, and does not cross abc", 1 + 2 + 4, x.follows());
    }

    /** Of two that cross, and eight ifs told from the last to the first, all ten ACTS follow. */
    private static String chain() {
        StringBuilder text = new StringBuilder(RING + "act abc;act adf;");
        for (int i = 0; i < 8; i++) {
            text.append("act xx").append((char) ('a' + i)).append(';');
        }
        for (int i = 7; i > 0; i--) {
            text.append("if abc and xx").append((char) ('a' + i - 1));
            text.append(" then xx").append((char) ('a' + i)).append(';');
        }
        return text.append("if abc and adf then xxa;").toString();
    }

    /** "again and again": as many rounds as there are ifs; an if that brings what is there already. */
    private static void againAndAgain() {
        GridLaws x = Check.of(chain());
        x.write(0, 0);
        due("nothing yet", 1, x.follows());
        x.write(1, 2);
        due("all", 1023, x.follows());
        x = Check.of(RING_ACTS + "if abc and adf then abc;if abc and xxx then xxx;");
        x.write(0, 0);
        x.write(2, 2);
        due("nothing new", 5, x.follows());
    }

    /** "AGAINST: nevers both of whose ACTS are of what FOLLOWS": 0, 1, all 8. */
    private static void againstBoth() {
        StringBuilder text = new StringBuilder(chain());
        for (int i = 0; i < 8; i++) {
            text.append("never xx").append((char) ('a' + i)).append(" abc;");
        }
        GridLaws x = Check.of(text.toString());
        due("none", 0, x.against());
        x.write(0, 0);
        due("one act of each", 0, x.against());
        x.write(1, 2);
        due("all, though eight acts are not in force", 8, x.against());
        x = Check.of(RING_ACTS + "never fgh abc;never adf xxx;");
        x.write(1, 1);
        due("one act", 0, x.against());
        x.write(0, 0);
        due("both, though they do not cross", 1, x.against());
    }

    /** "an ACT is written into a SLOT that it FITS, if it is not IN FORCE" */
    private static void writtenOnce() {
        GridLaws x = Check.of("act abc;act xbc;");
        due("written", 3, x.write(0, 0));
        due("into another slot", NONE, x.write(0, 1));
        due("into its own slot", NONE, x.write(0, 0));
        x.strike(2);
        due("with one letter struck", 1, x.write(0, 0));
        x.strike(0);
        due("another act over what is left", 1, x.write(1, 0));
        due("now that is not in force, and fits below", 3, x.write(0, 1));
    }

    /** "a CELL becomes black, its letter is lost (8 black ones at most)": 7, 8 and 9, told ones too. */
    private static void eightBlackOnes() {
        GridLaws x = Check.of("size 4 by 5;black 0 0;black 0 1;black 0 2;act abcd;");
        due("the slot down from cell 4", 4, x.slot(5, 0));
        x.write(0, 5);
        due("the letter", 1, x.square(4));
        due("a fourth", 4, x.blacken(4));
        due("its letter is lost", 27, x.square(4));
        due("a fifth", 5, x.blacken(19));
        due("a sixth", 6, x.blacken(18));
        due("a seventh", 7, x.blacken(17));
        due("an eighth", 8, x.blacken(16));
        due("no ninth", NONE, x.blacken(15));
        due("it is blank", 0, x.square(15));
        x.undo();
        due("an eighth again", 8, x.blacken(15));
        for (int i = 0; i < 5; i++) {
            x.undo();
        }
        due("the letter is back", 1, x.square(4));
        due("told ones stay", 3, x.about(5));
    }

    /** "if that is more than 0": -1, 0 and 1; and the year goes up all the same. */
    private static void moreThanZero() {
        for (int want = -1; want <= 1; want++) {
            GridLaws x = Check.of(ROW + "party p;act abc p " + (want < 0 ? "-1" : "" + want) + ";");
            due("sitting with " + want, want > 0 ? 0 : NONE, x.sitting());
            due("in force with " + want, want > 0 ? 1 : 0, x.force());
            due("year with " + want, 1, x.about(4));
            due("kept with " + want, 1, x.about(8));
        }
        GridLaws x = Check.of(ROW + "party p;act ab p 9;act abcd p 9;act abc p 1;");
        due("what fits nowhere does not count", 200, x.sitting());
        due("nothing fits any more", NONE, x.sitting());
    }

    /** "the one of which it wants most .. (of like ones the first), into the first SLOT that it FITS" */
    private static void likeOnesTheFirst() {
        String two = "party p;act abc p 8;act xyz p 9;act xbc p 9;";
        GridLaws x = Check.of(two);
        due("the first of those it wants most", 100, x.sitting());
        // Slot 1 is the first row that is blank; xyz is in force now.
        due("the second of them", 201, x.sitting());
        due("then the one it wants less, down if need be", 2, x.sitting());
        due("all are in force", NONE, x.sitting());
        due("year", 4, x.about(4));
    }

    /** "the PARTY of the year, modulo how many there are": none, 1, 2, 3. */
    private static void moduloParties() {
        String[] names = {"p", "q", "r"};
        for (int count = 0; count <= 3; count++) {
            StringBuilder text = new StringBuilder("size 4 by 2;");
            for (int party = 0; party < count; party++) {
                text.append("party ").append(names[party]).append(';');
            }
            for (int party = 0; party < count; party++) {
                text.append("act a").append((char) ('a' + party)).append(' ').append(names[party]).append(" 1;");
                text.append("act b").append((char) ('a' + party)).append(' ').append(names[party]).append(" 1;");
            }
            GridLaws x = Check.of(text.toString());
            for (int year = 0; year < 4; year++) {
                int party = count == 0 ? NONE : year % count;
                boolean writes = party != NONE && year / count < 2;
                due("sitting of year " + year + " of " + count, writes ? 100 * (2 * party + year / count) + year : NONE,
                        x.sitting());
            }
        }
    }

    /** "40 at most are kept, the oldest go": 39, 40 and 41. */
    private static void fortyKept() {
        for (int done = 39; done <= 41; done++) {
            GridLaws x = new GridLaws();
            x.blacken(0);
            for (int i = 1; i < done; i++) {
                x.sitting();
            }
            int kept = Math.min(40, done);
            due("kept of " + done, kept, x.about(8));
            for (int i = 0; i < kept; i++) {
                Check.due("undo of " + done, true, x.undo());
            }
            Check.due("no more of " + done, false, x.undo());
            due("the oldest of " + done, done == 41 ? 27 : 0, x.square(0));
            due("year of " + done, 0, x.about(4));
            due("to redo of " + done, kept, x.about(9));
            for (int i = 0; i < kept; i++) {
                Check.due("redo of " + done, true, x.redo());
            }
            Check.due("none left of " + done, false, x.redo());
            due("year again of " + done, done - 1, x.about(4));
            due("kept again of " + done, kept, x.about(8));
        }
    }

    /** "REDO does that again which was taken back last (till another one)" */
    private static void redoTillAnother() {
        for (int another = 0; another < 4; another++) {
            GridLaws x = Check.of("act abc;act xyz;");
            x.write(0, 0);
            x.blacken(4);
            x.undo();
            due("one to redo", 1, x.about(9));
            switch (another) {
                case 0 -> x.write(1, 1);
                case 1 -> x.strike(0);
                case 2 -> x.blacken(8);
                default -> x.sitting();
            }
            due("none behind another one", 0, x.about(9));
            Check.due("redo behind another one", false, x.redo());
            due("not black", 0, x.square(4) == 27 ? 1 : 0);
            due("two kept", 2, x.about(8));
        }
        GridLaws x = Check.of("act abc;act xyz;");
        x.write(0, 0);
        x.write(1, 1);
        x.undo();
        x.undo();
        x.redo();
        due("what was taken back last comes first", 1, x.force());
        x.redo();
        due("then the other", 3, x.force());
    }

    /** "each ACT to one SLOT alone" */
    private static void eachActToOneSlot() {
        due("one act for four slots", 0, Check.of("size 2 by 2;act aa;").fillings());
        due("one act for one slot", 1, Check.of(ROW + "act abc;").fillings());
        due("no act for one slot", 0, Check.of(ROW).fillings());
        due("three acts for one slot", 3, Check.of(ROW + "act abc;act xyz;act xxx;act ab;").fillings());
        due("one act for two slots", 0, Check.of("size 2 by 3;black 0 1;black 1 1;act aa;").fillings());
        due("two acts for two slots", 2, Check.of("size 2 by 3;black 0 1;black 1 1;act aa;act bb;").fillings());
        due("without slots", 1, Check.of("size 2 by 2;black 0 0;black 1 1;act aa;").fillings());
        GridLaws x = Check.of("size 2 by 2;act ab;act aa;act bb;act ba;act cc;");
        x.write(0, 2);
        x.write(1, 0);
        x.write(2, 1);
        due("ab stands in two slots now", 0, x.fillings());
    }

    /** "those that have one now theirs"; a SLOT with letters of no ACT can have none. */
    private static void theirsNow() {
        GridLaws x = Check.of(SQUARE + "act zz;");
        due("two", 2, x.fillings());
        x.write(0, 2);
        due("at down, as across", 1, x.fillings());
        x.write(2, 0);
        x.write(1, 3);
        due("all four are there", 1, x.fillings());
        x.strike(3);
        due("one letter struck", 1, x.fillings());
        x = Check.of(SQUARE + "act zz;");
        x.write(4, 0);
        due("zz leaves none", 0, x.fillings());
        x = Check.of(ROW + "act abc;act xyc;");
        x.write(0, 0);
        x.strike(0);
        x.strike(1);
        due("both that fit", 2, x.fillings());
    }

    private static GridLaws tried(String acts) {
        return Check.of("size 4 by 4;party p;act " + acts.replace(" ", " p 1;act ") + " p 1;");
    }

    /** "SPENT: more than 20,000 were TRIED (all FILLINGS counted, however many are asked)" */
    private static void moreThan20000() {
        GridLaws x = tried(TRIED_20000);
        due("fillings by 20,000", 4, x.fillings());
        due("prints by 20,000", 4, x.prints(0));
        due("best by 20,000", 8, x.best(0));
        due("it lies there", 8, x.about(14));
        due("least by 20,000", 8, x.span(0, 0));
        due("greatest by 20,000", 8, x.span(0, 1));
        due("sure by 20,000", true, x.sure(0, 0) >= 0);
        due("ask by 20,000", true, x.ask(0, 0) >= 0);
        GridLaws y = tried(TRIED_20001);
        due("fillings by 20,001", SPENT, y.fillings());
        due("prints by 20,001", SPENT, y.prints(0));
        due("best by 20,001", GAP, y.best(0));
        due("nothing lies there", 0, y.about(14));
        due("least by 20,001", GAP, y.span(0, 0));
        due("greatest by 20,001", GAP, y.span(0, 1));
        due("sure by 20,001", NONE, y.sure(0, 0));
        due("ask by 20,001", NONE, y.ask(0, 0));
        due("left by 20,001", NONE, y.ask(1, 0));
        // A sight that no print can have does not make it less, nor does a letter that is written.
        y.sight(0, 26, true);
        due("prints by 20,001 with a sight", SPENT, y.prints(0));
        y.write(0, 0);
        due("fewer are tried with an act written", true, y.fillings() != SPENT);
        due("but not for prints", SPENT, y.prints(0));
    }

    private static void due(String call, boolean want, boolean got) {
        Check.due(call, want, got);
    }

    /** "BEST .. of like ones the first (SLOT by SLOT)" */
    private static void bestOfLikeOnes() {
        GridLaws x = Check.of(SQUARE.replace("act at;", "party p;act at p 1;"));
        due("both are worth 1", 1, x.best(0));
        int[] first = {0, 1, 2, 3};
        for (int slot = 0; slot < 4; slot++) {
            due("act of slot " + slot, first[slot], x.lies(slot));
        }
        x = Check.of(SQUARE.replace("act at;", "party p;act at p 1;") + "force 2-across;");
        due("down it is worth more", 2, x.best(0));
        int[] second = {2, 3, 0, 1};
        for (int slot = 0; slot < 4; slot++) {
            due("act of slot " + slot, second[slot], x.lies(slot));
        }
    }

    /** "SPAN: the least, the greatest WORTH": of one FILLING both are like; below 0, too. */
    private static void spanOfOne() {
        GridLaws x = Check.of(ROW + "party p;act abc p -3;");
        due("least", -3, x.span(0, 0));
        due("greatest", -3, x.span(0, 1));
        due("best", -3, x.best(0));
        x = Check.of(ROW + "party p;act abc p -3;act xyz p -9;act zzz p 2;");
        due("least", -9, x.span(0, 0));
        due("greatest", 2, x.span(0, 1));
        x = Check.of(ROW + "party p;act abc p -3;act xyz p -9;");
        due("greatest below 0", -3, x.best(0));
        due("its act", 0, x.lies(0));
        x = Check.of(ROW + "party p;act abc p 2;act xyz p 5;act zzz p 9;");
        due("least of three above 0", 2, x.span(0, 0));
        due("greatest of three", 9, x.span(0, 1));
    }

    /** "REFORM: the SLOT as long as it is in which fewest letters are other ones; of like ones the first" */
    private static void fewestLetters() {
        GridLaws x = Check.of("size 2 by 5;black 1 0;black 1 1;black 1 2;black 1 3;black 1 4;"
                + "act abcde;act zzzzz;act abczz;act abcd;");
        due("of blanks none is another", 0, x.reform(1, 0));
        x.write(0, 0);
        due("all five", 5, x.reform(1, 0));
        due("two", 2, x.reform(2, 0));
        due("in force: none", 0, x.reform(0, 0));
        x.strike(4);
        due("a blank is no other letter", 4, x.reform(1, 0));
        due("nor here", 1, x.reform(2, 0));
        due("a letter less than the slot", NONE, x.reform(3, 0));
        due("no slot", NONE, x.reform(3, 1));
        x = Check.of("act abc;act xbc;act xyc;");
        due("all like: the first", 0, x.reform(2, 1));
        x.write(0, 0);
        due("a blank row is fewer", 1, x.reform(2, 1));
        x.write(1, 1);
        // Row 0 abc, row 1 xbc, row 2 blank; column 0 ax., column 2 cc. .
        due("the blank row", 2, x.reform(2, 1));
        due("without others", 0, x.reform(2, 0));
    }

    /** "PLAY .. (none, if none FITS any more) .. of like ones the first (by SLOTS, then by ACTS)" */
    private static void playOfTwo() {
        String two = "party p;party q;";
        due("no act", GAP, Check.of(ROW + two).play(0, 1, 0));
        GridLaws x = Check.of(ROW + two + "act abc p 2 q 5;");
        due("one act", -3, x.play(0, 1, 0));
        due("it must be written", 0, x.play(0, 1, 1));
        due("the other has none", NONE, x.play(0, 1, 2));
        x = Check.of(ROW + two + "act abc p 2;act xyz p 2;");
        due("of like acts the first", 0, x.play(0, 1, 1));
        due("the other one does not fit any more", NONE, x.play(0, 1, 2));
        x = Check.of("size 2 by 3;black 0 1;black 1 1;" + two + "act ab p 2;act cd p 2;");
        due("of like slots the first", 0, x.play(0, 1, 1));
        due("the other one must write, too", 101, x.play(0, 1, 2));
        due("both are worth", 4, x.play(0, 1, 0));
        due("less", -4, x.play(1, 0, 0));
        x.write(0, 1);
        due("the slot that is left", 100, x.play(1, 0, 1));
        x.write(1, 0);
        due("nothing can be written", GAP, x.play(1, 0, 1));
        x = Check.of("size 2 by 3;black 0 1;black 1 1;" + two + "act ab p 2;act cd p 1;force line+1;");
        // cd into slot 0 and ab into slot 1 bring as much as ab into slot 1 and cd into slot 0.
        due("both bring", 7, x.play(0, 1, 0));
        due("by slots, then by acts", 100, x.play(0, 1, 1));
        due("ab into slot 1", 1, x.play(0, 1, 2));
        x = Check.of("size 2 by 3;black 0 1;black 1 1;" + two + "act ab p 1;force line+1;");
        due("the second slot brings more", 3, x.play(0, 1, 0));
        due("ab into slot 1", 1, x.play(0, 1, 1));
        due("no other act", NONE, x.play(0, 1, 2));
        // Whoever writes def brings what it ends down, too, so all three ways come to the same.
        x = Check.of("size 2 by 3;" + two + "act abc;act def q 2;act ad p 9;act be q 3;");
        x.write(0, 0);
        due("what an act ends counts", 4, x.play(0, 1, 0));
        due("def into the second row", 101, x.play(0, 1, 1));
        due("nothing is left", NONE, x.play(0, 1, 2));
        x = Check.of("size 2 by 3;black 0 1;black 1 1;" + two + "act cc p 9;act ab q 1;act ba q 1;");
        due("cc into slot 0", 0, x.play(0, 1, 1));
        due("of like answers the first", 101, x.play(0, 1, 2));
    }

    /** "CAPITAL: .. the longest ACT across .. meets one down .., the longest of these; .. the first CELL" */
    private static void capital() {
        GridLaws x = Check.of(RING_ACTS);
        due("no act", NONE, x.capital());
        x.write(2, 2);
        due("none across", NONE, x.capital());
        x.write(0, 0);
        due("where both meet", 0, x.capital());
        x.write(3, 3);
        due("of like ones the first", 0, x.capital());
        x.strike(3);
        due("the one that is left", 2, x.capital());
        x.strike(5);
        due("none down", NONE, x.capital());
        // Row 3 has a slot of 2 at cell 15, column 0 one of 2 at cells 10 and 15.
        x = Check.of("size 4 by 5;black 1 0;black 3 2;act xy;act zx;act abcde;act bcde;");
        int across = 3;
        due("across at 15", 15, x.slot(across, 0));
        x.write(0, across);
        int down = 9;
        due("down at 10", 10, x.slot(down, 0));
        x.write(1, down);
        due("two of two letters", 15, x.capital());
        x.write(2, 0);
        due("the longest across meets none down", NONE, x.capital());
    }

    /** "SIGHTS, 30 at most": 29, 30 and 31; those UNTOLD are SIGHTS still; a new GRID has none. */
    private static void thirtySights() {
        GridLaws x = Check.of(SQUARE);
        for (int round = 0; round < 2; round++) {
            for (int i = 0; i < 30; i++) {
                due("sights ahead", i, x.about(10));
                due("sight", i, x.sight(0, 1, true));
            }
            due("no thirty-first", NONE, x.sight(0, 1, true));
            Check.due("the last is untold", true, x.untell(29));
            due("still thirty", 30, x.about(10));
            due("and no more", NONE, x.sight(0, 2, true));
            due("prints", 2, x.prints(0));
            Check.grid(x, SQUARE);
        }
    }

    /** "those count that were TOLD at k or before, not UNTOLD at k or before" */
    private static void toldAndUntold() {
        GridLaws x = Check.of(SQUARE);
        x.later(10);
        x.sight(1, 20, true);
        x.later(10);
        Check.due("untold", true, x.untell(0));
        int[] times = {-1, 0, 9, 10, 11, 19, 20, 21, Integer.MIN_VALUE, Integer.MAX_VALUE};
        int[] prints = {2, 2, 2, 1, 1, 1, 2, 2, 2, 2};
        for (int i = 0; i < times.length; i++) {
            due("prints known at " + times[i], prints[i], x.prints(times[i]));
            due("sure known at " + times[i], prints[i] == 1 ? 20 : 0, x.sure(1, times[i]));
            due("ask known at " + times[i], prints[i] == 1 ? 0 : 1, x.ask(0, times[i]));
        }
        // "UNTOLD at a later one or the same": then it never counts.
        due("a sight", 1, x.sight(0, 26, true));
        due("it counts", 0, x.prints(20));
        Check.due("untold at the same time", true, x.untell(1));
        due("it counts no more", 2, x.prints(20));
        due("nor later", 2, x.prints(21));
        due("nor before", 1, x.prints(19));
        // At time 0, and known ahead of it.
        x = Check.of(SQUARE);
        x.sight(1, 20, true);
        due("known at 0", 1, x.prints(0));
        due("known at -1", 2, x.prints(-1));
        due("not told yet, known later", 1, x.prints(5));
    }

    /** "a CELL of the print had a letter (1: a .. 26: z), or had another one" */
    private static void lettersSeen() {
        for (int letter = 0; letter <= 27; letter++) {
            GridLaws x = Check.of(ROW + "act abz;act zba;");
            boolean isOne = letter >= 1 && letter <= 26;
            due("sight of letter " + letter, isOne ? 0 : NONE, x.sight(0, letter, true));
            due("prints with it", letter == 1 || letter == 26 ? 1 : isOne ? 0 : 2, x.prints(0));
            x = Check.of(ROW + "act abz;act zba;");
            due("sight of another than " + letter, isOne ? 0 : NONE, x.sight(0, letter, false));
            due("prints without it", letter == 1 || letter == 26 ? 1 : 2, x.prints(0));
        }
    }

    /** "(a CELL without a letter has another one)": a black one, and one of no SLOT. */
    private static void cellsWithoutLetters() {
        for (int cell : new int[] {1, 2}) {
            // Cell 1 is black, cell 2 stands alone beside it; cells 0 and 3 are the one slot.
            GridLaws x = Check.of("size 2 by 3;black 0 1;black 1 1;black 1 2;act ab;act cd;");
            due("one slot", 1, x.slots());
            due("two prints", 2, x.prints(0));
            x.sight(cell, 1, false);
            due("another letter", 2, x.prints(0));
            due("in no slot", NONE, x.sure(cell, 0));
            x.sight(cell, 1, true);
            due("not a letter", 0, x.prints(0));
        }
    }

    /** "PRINTS: FILLINGS of the empty GRID (black CELLS as now)" */
    private static void printsOfTheEmptyGrid() {
        GridLaws x = Check.of("size 2 by 3;act at;act so;act as;act to;act zz;");
        due("no print of three columns", 0, x.prints(0));
        x.blacken(2);
        x.blacken(5);
        due("two of two columns", 2, x.prints(0));
        x.write(4, 0);
        due("what is written does not count", 2, x.prints(0));
        due("for fillings it does", 0, x.fillings());
        x.undo();
        x.undo();
        due("black cells as now", 0, x.prints(0));
        x.redo();
        due("again", 2, x.prints(0));
        due("1 without slots", 1, Check.of("size 2 by 2;black 0 0;black 1 1;").prints(0));
    }

    /** "SURE of a CELL: its letter, if it is the same in all of these" */
    private static void sureInAll() {
        GridLaws x = Check.of(ROW + "act abz;act acz;act abc;");
        due("the same in all", 1, x.sure(0, 0));
        due("not in all", 0, x.sure(1, 0));
        due("not in all", 0, x.sure(2, 0));
        x.sight(2, 26, true);
        due("z is sure", 26, x.sure(2, 0));
        due("not in both", 0, x.sure(1, 0));
        x.sight(1, 3, false);
        due("of one print all is sure", 2, x.sure(1, 0));
        x.sight(1, 2, false);
        due("of none nothing", NONE, x.sure(0, 0));
    }

    /** "ASK: .. would leave the fewest PRINTS at the most; of like ones the first" */
    private static void askOfLikeOnes() {
        GridLaws x = Check.of(ROW + "act aab;act abc;act acb;");
        due("the second parts all", 1, x.ask(0, 0));
        due("one is left", 1, x.ask(1, 0));
        x.sight(1, 1, false);
        // abc and acb: the second and the third part both.
        due("of like ones the first", 1, x.ask(0, 0));
        x.sight(1, 2, true);
        due("of one print the first cell", 0, x.ask(0, 0));
        due("one is left", 1, x.ask(1, 0));
        x = Check.of(ROW + "act aab;act aac;act abb;act abc;act acb;");
        // By the second 2, 2, 1; by the third 3, 2; by the first all five.
        due("two at the most", 1, x.ask(0, 0));
        due("two", 2, x.ask(1, 0));
        x = Check.of(ROW + "act zab;act zbb;act zcb;");
        due("z leaves all three", 1, x.ask(0, 0));
        // A cell of a slot, not the first cell of the grid.
        x = Check.of("size 2 by 3;black 0 0;black 0 1;black 0 2;act abc;");
        due("the first cell of the slot", 3, x.ask(0, 0));
    }
}
