/**
 * The edges that the promises 1 to 40 name, in their order: at each edge, one below and one above it; and
 * where a call is refused, or only asks, that all stays. A method stands for the promise in its name.
 */
public final class CallEdgesTest {
    private static final int NONE = GridLaws.NONE;
    private static final int SPENT = GridLaws.SPENT;
    private static final int GAP = GridLaws.GAP;
    private static final int[] FAR = {Integer.MIN_VALUE, -1000000, -3, -2, -1, 1000000, Integer.MAX_VALUE};

    /** SLOTS 0 and 1 across, 2 and 3 down; FILLINGS: abc fgh adf ceh, and adf ceh abc fgh. */
    private static final String RING = "size 3 by 3;black 1 1;party p;party q;act abc p 2 q 1;act adf p -1;"
            + "act fgh q 5;act ceh p 3;act xyz q -2;if abc and adf then xyz;never abc xyz;force long+year;";
    private static final String NO_SLOTS = "size 2 by 2;party p;party q;black 0 0;black 1 1;act ab p 1;";

    public static void main(String[] args) {
        promise1NewObject();
        promise2Feed();
        promise3End();
        promise4Grid();
        promise4Fault();
        promise5Fault();
        promise6Square();
        promise7Slots();
        promise8Slot();
        slotsThatWere();
        promise9Fits();
        promise10Places();
        promise11Wants();
        promise12Write();
        promise13Strike();
        promise14Blacken();
        promise15Sitting();
        promise16Undo();
        promise17Redo();
        promises18To24();
        promise25Fillings();
        promise26Best();
        promise27Span();
        promise28Reform();
        promise29Play();
        promise30Will();
        promise31Lies();
        promise32Sight();
        promise33Untell();
        promise34Later();
        promise35Prints();
        promise36Sure();
        promise37Ask();
        promise38Image();
        promise39Back();
        promise40About();
        Check.finish("CallEdgesTest");
    }

    private static void due(String call, long want, long got) {
        Check.due(call, want, got);
    }

    /** Something of all that an object can hold: undone and to be redone, in boxes, lying, seen, on the tape. */
    private static void busy(GridLaws x) {
        Check.grid(x, RING);
        due("best", 12, x.best(0));
        x.write(0, 0);
        x.image(0);
        x.sitting();
        x.image(2);
        x.strike(1);
        x.blacken(3);
        x.undo();
        x.later(5);
        x.sight(0, 1, true);
        x.later(5);
        x.sight(2, 3, false);
        x.sight(8, 8, true);
        x.untell(0);
        x.later(5);
        Check.feed(x, "act ab;act cd");
    }

    private static GridLaws busy() {
        GridLaws x = new GridLaws();
        busy(x);
        return x;
    }

    private static void refused(String call, Twins.Call refused) {
        Twins.isRefused(call, CallEdgesTest::busy, refused);
    }

    private static void asked(String call, long want, Twins.Call asked) {
        Twins.stays(call, CallEdgesTest::busy, want, asked);
    }

    /** "An empty GRID (3 by 3 CELLS)", as the empty text tells it; no object knows of another. */
    private static void promise1NewObject() {
        GridLaws other = busy();
        Twins.areAlike("a new object and an empty text", x -> { }, GridLaws::grid);
        GridLaws x = new GridLaws();
        due("rows", 3, x.about(2));
        due("columns", 3, x.about(3));
        due("cell 8 is blank", 0, x.square(8));
        due("no cell 9", NONE, x.square(9));
        due("slots", 6, x.slots());
        due("the time is its own", 0, x.about(11));
        due("the other one's time", 15, other.about(11));
    }

    /** "NONE, and nothing comes, if there would be more than 1,600" */
    private static void promise2Feed() {
        for (int bytes = 1578; bytes <= 1600; bytes++) {
            int had = bytes;
            Twins.Calls before = x -> {
                Check.feed(x, "act ab;" + " ".repeat(1593));
                x.end(had);
            };
            Twins.Call feed = x -> x.feed(0x61637420, 0x63643b20, 0x20202020, 0x20202020, 0x20202020);
            if (bytes > 1580) {
                Twins.isRefused("feed behind " + bytes, before, feed);
            } else {
                GridLaws x = new GridLaws();
                before.on(x);
                due("feed behind " + bytes, bytes + 20, feed.on(x));
                due("bytes", bytes + 20, x.about(12));
                due("both acts", 2, x.grid());
            }
        }
        GridLaws x = new GridLaws();
        due("any numbers", 20, x.feed(Integer.MIN_VALUE, -1, 0, Integer.MAX_VALUE, 1));
        due("are bytes", NONE, x.grid());
        due("but no tokens", 1, x.fault(0));
        due("from the first on", 0, x.fault(1));
        // The highest byte of each number comes first: the fault is the one byte that is no blank.
        for (int place = 0; place < 20; place++) {
            int[] five = {0x20202020, 0x20202020, 0x20202020, 0x20202020, 0x20202020};
            five[place / 4] ^= 1 << 24 - 8 * (place % 4);
            GridLaws y = new GridLaws();
            y.feed(five[0], five[1], five[2], five[3], five[4]);
            due("fault of byte " + place, NONE, y.grid());
            due("place of byte " + place, place, y.fault(1));
        }
    }

    /** "NONE, doing nothing, if it has not so many, or n is below 0" */
    private static void promise3End() {
        refused("end(-1)", x -> x.end(-1));
        refused("end(14) of 13 bytes", x -> x.end(14));
        for (int far : FAR) {
            refused("end(" + far + ")", x -> x.end(far));
        }
        asked("end(13) of 13 bytes", 13, x -> x.end(13));
        GridLaws x = busy();
        due("end(12)", 12, x.end(12));
        due("bytes", 12, x.about(12));
        due("what is cut off is gone", NONE, x.end(13));
        due("end(0)", 0, x.end(0));
        due("no bytes", 0, x.about(12));
        due("end(0) of none", 0, x.end(0));
        due("end(1) of none", NONE, x.end(1));
        Check.feed(x, "act ef;");
        due("the tape goes on from its start", 1, x.grid());
    }

    /** "all CELLS blank but the black ones, year 0, nothing is kept .., SIGHTS are none, nothing lies there .." */
    private static void promise4Grid() {
        String text = "size 2 by 5;black 1 4;act ab;";
        Twins.areAlike("a text behind others and by itself", x -> {
            x.later(15);
            Check.grid(x, text);
        }, x -> {
            busy(x);
            x.end(0);
            due("grid", 1, Check.grid(x, text));
        });
        // An object holds two texts at once, the one in use and the one being read: each is cleared.
        for (int told = 1; told <= 3; told++) {
            int rounds = told;
            Twins.areAlike("a text behind " + told + " others", x -> Check.grid(x, text), x -> {
                for (int i = 0; i < rounds; i++) {
                    Check.grid(x, "size 4 by 5;black 0 0;party p;act aei p 7;act oui p 8;if aei and oui then aei;"
                            + "never aei oui;force 2*vowels;");
                }
                due("grid", 1, Check.grid(x, text));
            });
            GridLaws y = new GridLaws();
            for (int i = 0; i < rounds; i++) {
                Check.grid(y, "size 4 by 5;party p;act aei p 7;act oui p 8;" + "black 0 0;black 0 1;".repeat(i % 2));
            }
            Check.grid(y, "party p;party q;act bcd;act efg;black 2 2;force 1+vowels;");
            due("rows not told", 3, y.about(2));
            due("columns not told", 3, y.about(3));
            due("one black cell", 1, y.about(5));
            due("wants not told", 0, y.wants(0, 0));
            due("letters of the new acts alone", 3, y.fits(0));
            y.write(0, 0);
            due("bcd alone", 1, y.force());
            due("no vowels", 1, y.slot(0, 4));
        }
        GridLaws x = busy();
        x.end(7);
        due("how many acts", 1, x.grid());
        int[] due = {1, 0, 3, 3, 0, 0, 0, 0, 0, 0, 0, 15, 0, 0, 0};
        for (int what = 0; what < due.length; what++) {
            due("about(" + what + ") behind grid()", due[what], x.about(what));
        }
        for (int cell = 0; cell < 9; cell++) {
            due("cell " + cell + " is blank", 0, x.square(cell));
        }
        for (int box = 0; box < 3; box++) {
            due("box " + box + " is empty", NONE, x.back(box));
        }
        Check.due("nothing to undo", false, x.undo());
        Check.due("nothing to redo", false, x.redo());
        due("nothing lies there", NONE, x.lies(0));
        due("the tape is empty: the empty text", 0, x.grid());
        due("no acts", 0, x.about(0));
    }

    /** "NONE: a FAULT (all stays)": the TAPE, too. */
    private static void promise4Fault() {
        String[] texts = {"act ab;act cd", "!", "size 4 by 5;party a;party b;party c;black 0 0;act zz a 9;force 7*7;!",
            "act abc;act adf;if abc and adf then abc;never adf abc;size 3 by 3;"};
        for (String text : texts) {
            Twins.Calls before = x -> {
                busy(x);
                x.end(0);
                // A fault of the same text behind other calls: what fault() answers is the same then.
                due("grid of " + text, NONE, Check.grid(x, text));
            };
            Twins.isRefused("grid of " + text, before, GridLaws::grid);
            GridLaws faulty = busy();
            GridLaws plain = busy();
            faulty.end(0);
            plain.end(0);
            Check.feed(faulty, text);
            Check.feed(plain, text);
            due("grid of " + text, NONE, faulty.grid());
            for (int what = 0; what <= 14; what++) {
                due("about(" + what + ") behind a fault", plain.about(what), faulty.about(what));
            }
            due("worth behind a fault", plain.worth(0), faulty.worth(0));
            due("follows behind a fault", plain.follows(), faulty.follows());
            due("fillings behind a fault", plain.fillings(), faulty.fillings());
            due("prints behind a fault", plain.prints(15), faulty.prints(15));
            due("will behind a fault", plain.will(1, 5), faulty.will(1, 5));
            due("places behind a fault", plain.places(4), faulty.places(4));
        }
    }

    /** "Of the latest grid() what 0: its FAULT (0), 1: its place (NONE). NONE for another what." */
    private static void promise5Fault() {
        GridLaws x = new GridLaws();
        due("no grid() yet", 0, x.fault(0));
        due("nor a place", NONE, x.fault(1));
        Check.grid(x, "act ab;act a;");
        due("fault", 4, x.fault(0));
        due("place", 11, x.fault(1));
        for (int far : FAR) {
            due("fault(" + far + ")", NONE, x.fault(far));
        }
        due("fault(2)", NONE, x.fault(2));
        x.end(8);
        x.write(0, 0);
        due("the fault stays till the next grid()", 4, x.fault(0));
        due("its place, too", 11, x.fault(1));
        due("another fault", NONE, x.grid());
        due("its number", 2, x.fault(0));
        due("its place", 7, x.fault(1));
        x.end(7);
        due("no fault", 1, x.grid());
        due("0", 0, x.fault(0));
        due("NONE", NONE, x.fault(1));
        refused("fault(2)", y -> y.fault(2));
    }

    /** "0 blank, 1: a .. 26: z, 27 black; NONE if there is none such" */
    private static void promise6Square() {
        for (int rows = 2; rows <= 4; rows++) {
            for (int columns = 2; columns <= 5; columns++) {
                GridLaws x = Check.of("size " + rows + " by " + columns + ";black 0 0;");
                int cells = rows * columns;
                due("the first", 27, x.square(0));
                due("the last", 0, x.square(cells - 1));
                due("one behind it", NONE, x.square(cells));
                due("one ahead of the first", NONE, x.square(-1));
            }
        }
        GridLaws x = Check.of("size 2 by 2;act az;");
        x.write(0, 0);
        due("a", 1, x.square(0));
        due("z", 26, x.square(1));
        for (int far : FAR) {
            refused("square(" + far + ")", y -> y.square(far));
        }
    }

    /** "How many SLOTS there are": from none to the most that can be. */
    private static void promise7Slots() {
        due("none", 0, Check.of(NO_SLOTS).slots());
        due("one", 1, Check.of("size 2 by 2;black 0 0;black 0 1;").slots());
        due("the most", 12, Check.of("size 4 by 5;black 0 2;black 1 2;black 2 2;black 3 2;").slots());
        due("nine", 9, Check.of("size 4 by 5;").slots());
    }

    /** "NONE if there is none such, or for another what" */
    private static void promise8Slot() {
        GridLaws x = busy();
        due("the last slot", 2, x.slot(3, 0));
        for (int what = -1; what <= 7; what++) {
            due("a slot too far, what " + what, NONE, x.slot(x.slots(), what));
            due("a slot below 0, what " + what, NONE, x.slot(-1, what));
        }
        due("what 6 of the last", 3, Check.of(RING).slot(3, 6));
        due("what 7", NONE, x.slot(0, 7));
        due("what -1", NONE, x.slot(0, -1));
        due("no slots", NONE, Check.of(NO_SLOTS).slot(0, 0));
        for (int far : FAR) {
            refused("slot(" + far + ", 0)", y -> y.slot(far, 0));
            refused("slot(0, " + far + ")", y -> y.slot(0, far));
        }
        for (int slot = 0; slot < 4; slot++) {
            due("way of slot " + slot, slot < 2 ? 1 : 0, x.slot(slot, 2));
        }
        // What was a slot ahead of a black cell is none such behind it.
        x = new GridLaws();
        due("slot 5", 2, x.slot(5, 0));
        x.blacken(4);
        due("slot 4 is no more", NONE, x.slot(4, 0));
    }

    /** A row of 3, a row of 2 and three columns are two rows and two columns behind one black CELL. */
    private static void slotsThatWere() {
        GridLaws x = Check.of("size 2 by 3;act ab;");
        due("three columns", 28, x.places(0));
        x.blacken(0);
        due("a row and two columns", 13, x.places(0));
        x = Check.of("size 2 by 3;act abc;act def;");
        x.write(0, 0);
        x.write(1, 1);
        due("three columns of no act", 28, x.nonsense());
        x.blacken(0);
        due("a row and two columns of no act", 13, x.nonsense());
        due("def", 2, x.force());
        x = Check.of("size 2 by 3;party p;party q;act ab p 5;act cd p 1;");
        x.write(0, 4);
        due("ab there, cd into a column", 6, x.play(0, 1, 0));
        x.blacken(0);
        due("ab is there once", 6, x.play(0, 1, 0));
        due("cd into the first column that is left", 102, x.play(0, 1, 1));
        due("worth", 5, x.worth(0));
    }

    /** "(IN FORCE or not), as bits; NONE if there is none such" */
    private static void promise9Fits() {
        GridLaws x = Check.of(RING);
        due("the last slot", 31, x.fits(3));
        due("one behind it", NONE, x.fits(4));
        due("one ahead of the first", NONE, x.fits(-1));
        x.write(4, 3);
        due("in force", 16, x.fits(3));
        due("no act", 0, new GridLaws().fits(0));
        due("no slots", NONE, Check.of(NO_SLOTS).fits(0));
        for (int far : FAR) {
            refused("fits(" + far + ")", y -> y.fits(far));
        }
        StringBuilder sixteen = new StringBuilder("size 2 by 2;");
        for (int i = 0; i < 16; i++) {
            sixteen.append("act a").append((char) ('a' + i)).append(';');
        }
        due("all sixteen", 65535, Check.of(sixteen.toString()).fits(0));
    }

    /** "as bits; NONE if there is none such" */
    private static void promise10Places() {
        GridLaws x = Check.of(RING);
        due("the last act", 15, x.places(4));
        due("one behind it", NONE, x.places(5));
        due("one ahead of the first", NONE, x.places(-1));
        due("without slots none", 0, Check.of(NO_SLOTS).places(0));
        due("too short", 0, Check.of("act ab;").places(0));
        for (int far : FAR) {
            refused("places(" + far + ")", y -> y.places(far));
        }
        x = Check.of("size 4 by 5;black 0 2;black 1 2;black 2 2;black 3 2;act ab;act abcd;");
        due("eight across", 255, x.places(0));
        due("four down", 15 << 8, x.places(1));
    }

    /** "GAP if one can't be" */
    private static void promise11Wants() {
        asked("wants(1, 4)", -2, x -> x.wants(1, 4));
        asked("wants(2, 4)", GAP, x -> x.wants(2, 4));
        asked("wants(1, 5)", GAP, x -> x.wants(1, 5));
        asked("wants(0, 0)", 2, x -> x.wants(0, 0));
        for (int far : FAR) {
            asked("wants(" + far + ", 0)", GAP, x -> x.wants(far, 0));
            asked("wants(0, " + far + ")", GAP, x -> x.wants(0, far));
            asked("wants(" + far + ", " + far + ")", GAP, x -> x.wants(far, far));
        }
        due("no parties", GAP, Check.of("act ab;").wants(0, 0));
        due("no acts", GAP, Check.of("party p;").wants(0, 0));
        due("neither", GAP, new GridLaws().wants(0, 0));
    }

    /** "how many letters are new; NONE, doing nothing, if it is IN FORCE, does not FIT, or one can't be" */
    private static void promise12Write() {
        // Of busy(): row 0 is a blank c, row 2 is ceh, 3 is black no more.
        due("in force", 8, busy().force());
        refused("write of what is in force", x -> x.write(3, 0));
        refused("write of what is in force, there", x -> x.write(3, 1));
        refused("write of what does not fit", x -> x.write(4, 0));
        refused("write over another", x -> x.write(2, 1));
        refused("write of act 5", x -> x.write(5, 0));
        refused("write into slot 4", x -> x.write(0, 4));
        for (int far : FAR) {
            refused("write(" + far + ", 0)", x -> x.write(far, 0));
            refused("write(0, " + far + ")", x -> x.write(0, far));
            refused("write(" + far + ", " + far + ")", x -> x.write(far, far));
        }
        GridLaws x = busy();
        due("one letter is new", 1, x.write(0, 0));
        due("it is kept", 4, x.about(8));
        due("none to redo", 0, x.about(9));
        x = Check.of("size 2 by 2;act ab;act cd;act ac;act bd;");
        due("two are new", 2, x.write(0, 0));
        due("one is new", 1, x.write(2, 2));
        due("the last is new", 1, x.write(1, 1));
        due("bd came by itself", NONE, x.write(3, 3));
        due("all are in force", 15, x.force());
    }

    /** "which; NONE, doing nothing, if there is none" */
    private static void promise13Strike() {
        refused("strike of a blank cell", x -> x.strike(1));
        refused("strike of a black cell", x -> x.strike(4));
        refused("strike of cell 9", x -> x.strike(9));
        for (int far : FAR) {
            refused("strike(" + far + ")", x -> x.strike(far));
        }
        GridLaws x = Check.of("size 2 by 2;act az;");
        x.write(0, 0);
        due("a", 1, x.strike(0));
        due("z", 26, x.strike(1));
        due("nothing is left", NONE, x.strike(0));
        due("three are kept", 3, x.about(8));
    }

    /** "how many are; NONE, doing nothing, if it is so already, there are 8, or there is none such" */
    private static void promise14Blacken() {
        refused("blacken of a black cell", x -> x.blacken(4));
        refused("blacken of cell 9", x -> x.blacken(9));
        for (int far : FAR) {
            refused("blacken(" + far + ")", x -> x.blacken(far));
        }
        for (int count = 7; count <= 8; count++) {
            int blackened = count;
            Twins.Calls before = x -> {
                Check.grid(x, "size 4 by 5;party p;black 0 0;act abcde p 1;");
                x.write(0, 2);
                for (int i = 1; i < blackened; i++) {
                    x.blacken(i);
                }
                x.sitting();
                x.undo();
            };
            if (count == 8) {
                Twins.isRefused("blacken of a ninth, with a letter", before, x -> x.blacken(15));
                Twins.isRefused("blacken of a ninth", before, x -> x.blacken(19));
                Twins.isRefused("blacken of the eighth again", before, x -> x.blacken(7));
            } else {
                GridLaws x = new GridLaws();
                before.on(x);
                due("an eighth", 8, x.blacken(19));
                due("none to redo then", 0, x.about(9));
            }
        }
        GridLaws x = Check.of("size 2 by 2;");
        for (int cell = 0; cell < 4; cell++) {
            due("all cells", cell + 1, x.blacken(cell));
        }
        due("no slots", 0, x.slots());
        due("no blanks", 0, x.blanks());
    }

    private static void yearsOn(GridLaws x, int years) {
        Check.grid(x, RING);
        for (int i = 0; i < years; i++) {
            x.sitting();
        }
    }

    /** "SPENT, doing nothing, if the year would be above 999": behind 998, and behind 999. */
    private static void promise15Sitting() {
        Twins.stays("sitting in 999", x -> yearsOn(x, 999), SPENT, GridLaws::sitting);
        GridLaws x = new GridLaws();
        yearsOn(x, 998);
        due("sitting in 998", NONE, x.sitting());
        due("the year", 999, x.about(4));
        due("no more", SPENT, x.sitting());
        Check.due("undo", true, x.undo());
        due("the year", 998, x.about(4));
        due("again", NONE, x.sitting());
        // The year of a box, and what was told anew, count.
        due("kept", 999, x.image(0));
        x.undo();
        due("back", 999, x.back(0));
        due("no more", SPENT, x.sitting());
        Check.grid(x, RING);
        due("ceh into the first slot", 300, x.sitting());
        due("no party", NONE, new GridLaws().sitting());
    }

    /** "true; false if there is none" */
    private static void promise16Undo() {
        Twins.stays("undo of nothing", x -> { }, 0, x -> x.undo() ? 1 : 0);
        Twins.stays("undo of nothing more", x -> {
            busy(x);
            for (int i = 0; i < 3; i++) {
                Check.due("undo", true, x.undo());
            }
            due("none left", 0, x.about(8));
            due("to redo", 4, x.about(9));
        }, 0, x -> x.undo() ? 1 : 0);
        Twins.stays("undo behind back", x -> {
            busy(x);
            x.back(0);
        }, 0, x -> x.undo() ? 1 : 0);
        // What was undone and done again leaves nothing behind.
        Twins.areAlike("undo and redo", CallEdgesTest::busy, x -> {
            busy(x);
            Check.due("undo", true, x.undo());
            Check.due("redo", true, x.redo());
        });
    }

    /** "true; false if there is none" */
    private static void promise17Redo() {
        Twins.stays("redo of nothing", x -> { }, 0, x -> x.redo() ? 1 : 0);
        Twins.stays("redo of nothing more", x -> {
            busy(x);
            Check.due("redo", true, x.redo());
            due("none left", 0, x.about(9));
            due("to undo", 4, x.about(8));
        }, 0, x -> x.redo() ? 1 : 0);
        Twins.stays("redo behind another one", x -> {
            busy(x);
            due("strike", 3, x.strike(2));
        }, 0, x -> x.redo() ? 1 : 0);
        Twins.areAlike("redo and undo", CallEdgesTest::busy, x -> {
            busy(x);
            Check.due("redo", true, x.redo());
            Check.due("undo", true, x.undo());
        });
    }

    /** What is in force, follows, is against, is had, is blank, the capital, nonsense: only asked. */
    private static void promises18To24() {
        asked("force()", 8, GridLaws::force);
        asked("follows()", 8, GridLaws::follows);
        asked("against()", 0, GridLaws::against);
        asked("worth(0)", 3 * (3 + 1), x -> x.worth(0));
        asked("worth(1)", 0, x -> x.worth(1));
        asked("worth(2)", GAP, x -> x.worth(2));
        for (int far : FAR) {
            asked("worth(" + far + ")", GAP, x -> x.worth(far));
        }
        asked("blanks()", 3, GridLaws::blanks);
        asked("capital()", NONE, GridLaws::capital);
        asked("nonsense()", 0, GridLaws::nonsense);
        GridLaws none = Check.of(NO_SLOTS);
        due("force without slots", 0, none.force());
        due("follows without slots", 0, none.follows());
        due("worth without slots", 0, none.worth(0));
        due("blanks without slots", 0, none.blanks());
        due("capital without slots", NONE, none.capital());
        due("nonsense without slots", 0, none.nonsense());
        due("worth without parties", GAP, new GridLaws().worth(0));
        // A cell of no slot is not counted, one of two slots once.
        due("blanks of a whole grid", 20, Check.of("size 4 by 5;").blanks());
        due("blanks without one alone", 2, Check.of("size 2 by 3;black 0 1;black 1 1;black 1 2;").blanks());
        GridLaws x = Check.of("size 2 by 2;act ab;act cd;");
        x.write(0, 0);
        due("one letter is blank", 0, x.nonsense());
        x.write(1, 1);
        due("ac and bd are no acts", 12, x.nonsense());
    }

    /** "how many (1 without SLOTS); SPENT" */
    private static void promise25Fillings() {
        due("without slots", 1, Check.of(NO_SLOTS).fillings());
        due("without acts", 0, new GridLaws().fillings());
        due("without both", 1, Check.of("size 2 by 2;black 0 0;black 1 1;").fillings());
        asked("fillings()", 0, GridLaws::fillings);
        Twins.stays("fillings() of a blank grid", x -> Check.grid(x, RING), 2, GridLaws::fillings);
    }

    /** "GAP if there is no FILLING, if SPENT, or one can't be .. (behind GAP: nothing)" */
    private static void promise26Best() {
        GridLaws x = Check.of(RING);
        due("best", 12, x.best(0));
        due("four numbers", 4, x.about(14));
        due("best of party 2", GAP, x.best(2));
        due("nothing lies there", 0, x.about(14));
        due("not even the first", NONE, x.lies(0));
        for (int far : FAR) {
            x.best(0);
            due("best(" + far + ")", GAP, x.best(far));
            due("nothing lies there", 0, x.about(14));
        }
        x.best(1);
        due("for another party", 4, x.about(14));
        x.write(4, 0);
        due("what lies there stays", 4, x.about(14));
        due("no filling", GAP, x.best(1));
        due("nothing lies there", 0, x.about(14));
        x = Check.of(NO_SLOTS);
        due("without slots", 0, x.best(0));
        due("no numbers", 0, x.about(14));
        due("of no party", GAP, new GridLaws().best(0));
        // Only what lies there is new behind best().
        Twins.areAlike("best() twice", CallEdgesTest::busy, y -> {
            busy(y);
            y.best(7);
            y.undo();
            y.undo();
            y.undo();
            due("best again", 12, y.best(0));
            y.redo();
            y.redo();
            y.redo();
        });
    }

    /** "GAP likewise", and for another what; nothing new lies there. */
    private static void promise27Span() {
        Twins.Calls ring = x -> {
            Check.grid(x, RING);
            x.best(1);
        };
        Twins.stays("span(0, 0)", ring, 12, x -> x.span(0, 0));
        Twins.stays("span(0, 1)", ring, 12, x -> x.span(0, 1));
        Twins.stays("span(1, 1)", ring, 18, x -> x.span(1, 1));
        Twins.stays("span(0, 2)", ring, GAP, x -> x.span(0, 2));
        Twins.stays("span(2, 0)", ring, GAP, x -> x.span(2, 0));
        for (int far : FAR) {
            Twins.stays("span(" + far + ", 0)", ring, GAP, x -> x.span(far, 0));
            Twins.stays("span(0, " + far + ")", ring, GAP, x -> x.span(0, far));
        }
        asked("span of no filling", GAP, x -> x.span(0, 0));
        due("without slots, least", 0, Check.of(NO_SLOTS).span(0, 0));
        due("without slots, greatest", 0, Check.of(NO_SLOTS).span(1, 1));
        due("without parties", GAP, new GridLaws().span(0, 0));
    }

    /** "NONE if there is none as long, or one can't be (IN FORCE: 0, that SLOT)" */
    private static void promise28Reform() {
        asked("reform(3, 0) in force", 0, x -> x.reform(3, 0));
        asked("reform(3, 1) in force", 1, x -> x.reform(3, 1));
        asked("reform(0, 0)", 0, x -> x.reform(0, 0));
        asked("reform(0, 1)", 0, x -> x.reform(0, 1));
        refused("reform(3, 2)", x -> x.reform(3, 2));
        refused("reform(5, 0)", x -> x.reform(5, 0));
        for (int far : FAR) {
            refused("reform(" + far + ", 0)", x -> x.reform(far, 0));
            refused("reform(0, " + far + ")", x -> x.reform(0, far));
        }
        for (int what = 0; what <= 1; what++) {
            due("one letter less", NONE, Check.of("act ab;").reform(0, what));
            due("one letter more", NONE, Check.of("act abcd;").reform(0, what));
            due("no slots", NONE, Check.of(NO_SLOTS).reform(0, what));
        }
        // In force in two slots: the first of them.
        GridLaws x = Check.of("size 2 by 2;act ab;act aa;act bb;");
        x.write(0, 3);
        x.write(1, 0);
        x.write(2, 1);
        due("in force twice", 0, x.reform(0, 0));
        due("the first", 2, x.reform(0, 1));
    }

    /** "GAP if nothing can be written, or one can't be (the same one twice, too)" */
    private static void promise29Play() {
        // ceh into row 0 brings p 9, fgh into row 2 takes 15.
        int[] due = {-6, 300, 201};
        for (int what = 0; what <= 2; what++) {
            int asks = what;
            Twins.stays("play(0, 1, " + what + ")", x -> Check.grid(x, RING), due[what], x -> x.play(0, 1, asks));
            asked("play(0, 0, " + what + ")", GAP, x -> x.play(0, 0, asks));
            asked("play(1, 1, " + what + ")", GAP, x -> x.play(1, 1, asks));
            asked("play(0, 2, " + what + ")", GAP, x -> x.play(0, 2, asks));
            asked("play(2, 0, " + what + ")", GAP, x -> x.play(2, 0, asks));
            asked("play(-1, 0, " + what + ")", GAP, x -> x.play(-1, 0, asks));
            asked("play(0, -1, " + what + ")", GAP, x -> x.play(0, -1, asks));
            due("without slots", GAP, Check.of(NO_SLOTS).play(0, 1, what));
            GridLaws full = Check.of(RING);
            for (int slot = 0; slot < 4; slot++) {
                due("written", slot < 2 ? 3 : 1, full.write(new int[] {0, 2, 1, 3}[slot], slot));
            }
            due("nothing can be written", GAP, full.play(0, 1, what));
        }
        asked("play(0, 1, 3)", GAP, x -> x.play(0, 1, 3));
        for (int far : FAR) {
            asked("play(0, 1, " + far + ")", GAP, x -> x.play(0, 1, far));
            asked("play(" + far + ", 1, 0)", GAP, x -> x.play(far, 1, 0));
            asked("play(0, " + far + ", 0)", GAP, x -> x.play(0, far, 0));
        }
        due("one party alone", GAP, Check.of("party p;act abc p 1;").play(0, 1, 0));
    }

    /** "WORTH of a PARTY behind n SITTINGS (0 .. 60); GAP if one can't be" */
    private static void promise30Will() {
        // Year 1 now: q writes fgh, which does not fit any more; ceh stands for 3 + year each.
        GridLaws x = busy();
        due("behind none as now", x.worth(0), x.will(0, 0));
        for (int n : new int[] {0, 1, 59, 60}) {
            GridLaws y = busy();
            for (int i = 0; i < n; i++) {
                y.sitting();
            }
            int want = y.worth(0);
            asked("will(0, " + n + ")", want, z -> z.will(0, n));
        }
        asked("will(0, 61)", GAP, z -> z.will(0, 61));
        asked("will(0, -1)", GAP, z -> z.will(0, -1));
        asked("will(2, 0)", GAP, z -> z.will(2, 0));
        for (int far : FAR) {
            asked("will(" + far + ", 1)", GAP, z -> z.will(far, 1));
            asked("will(0, " + far + ")", GAP, z -> z.will(0, far));
        }
        due("without parties", GAP, new GridLaws().will(0, 0));
        // No sitting goes above the year 999.
        GridLaws late = new GridLaws();
        yearsOn(late, 939);
        Check.due("the last that can be", true, late.will(0, 60) != GAP);
        late.sitting();
        due("one too many", GAP, late.will(0, 60));
    }

    /** "The i-th number of what lies there; NONE if there is none such" */
    private static void promise31Lies() {
        asked("lies(0)", 0, x -> x.lies(0));
        asked("lies(3)", 3, x -> x.lies(3));
        asked("lies(4)", NONE, x -> x.lies(4));
        asked("lies(-1)", NONE, x -> x.lies(-1));
        for (int far : FAR) {
            asked("lies(" + far + ")", NONE, x -> x.lies(far));
        }
        due("nothing", NONE, new GridLaws().lies(0));
    }

    /** "its number; NONE, doing nothing, if one can't be (a letter 1 .. 26), or there are 30" */
    private static void promise32Sight() {
        for (boolean is : new boolean[] {true, false}) {
            refused("sight of cell -1", x -> x.sight(-1, 1, is));
            refused("sight of cell 9", x -> x.sight(9, 1, is));
            refused("sight of letter 0", x -> x.sight(0, 0, is));
            refused("sight of letter 27", x -> x.sight(0, 27, is));
            refused("sight of letter -1", x -> x.sight(0, -1, is));
            for (int far : FAR) {
                refused("sight(" + far + ", 1)", x -> x.sight(far, 1, is));
                refused("sight(0, " + far + ")", x -> x.sight(0, far, is));
            }
            due("letter 1, cell 0", 3, busy().sight(0, 1, is));
            due("letter 26, the last cell", 3, busy().sight(8, 26, is));
            due("a black cell", 3, busy().sight(4, 26, is));
        }
        for (int count = 29; count <= 30; count++) {
            int told = count;
            Twins.Calls before = x -> {
                Check.grid(x, RING);
                for (int i = 0; i < told; i++) {
                    due("sight", i, x.sight(1, 1 + i % 26, i % 2 == 0 && i == 2));
                    x.later(1);
                }
                x.untell(3);
            };
            if (count == 30) {
                Twins.isRefused("sight of a thirty-first", before, x -> x.sight(0, 1, true));
                Twins.isRefused("sight of a thirty-first that can't be", before, x -> x.sight(9, 1, true));
            } else {
                GridLaws x = new GridLaws();
                before.on(x);
                due("a thirtieth", 29, x.sight(0, 1, true));
            }
        }
    }

    /** "true; false if it is so already, or there is none such" */
    private static void promise33Untell() {
        asked("untell(0) again", 0, x -> x.untell(0) ? 1 : 0);
        asked("untell(3) of three", 0, x -> x.untell(3) ? 1 : 0);
        asked("untell(-1)", 0, x -> x.untell(-1) ? 1 : 0);
        for (int far : FAR) {
            asked("untell(" + far + ")", 0, x -> x.untell(far) ? 1 : 0);
        }
        GridLaws x = busy();
        Check.due("untell(1)", true, x.untell(1));
        Check.due("untell(1) again", false, x.untell(1));
        x.later(1);
        Check.due("untell(1) later", false, x.untell(1));
        Check.due("untell(29) of none", false, new GridLaws().untell(29));
        Check.due("untell(0) of none", false, new GridLaws().untell(0));
        GridLaws anew = busy();
        anew.end(0);
        Check.grid(anew, RING);
        Check.due("untell(2) of an earlier grid", false, anew.untell(2));
        due("sight", 0, anew.sight(0, 1, true));
        Check.due("untell(1) of an earlier grid", false, anew.untell(1));
        // It stays untold since the first time.
        due("known at 14", 1, x.prints(14));
        due("known at 15", 2, x.prints(15));
        due("known at 16", 2, x.prints(16));
    }

    /** "(0 .. 1000): the TIME; NONE, doing nothing, for another number, or if it would be above 100,000" */
    private static void promise34Later() {
        refused("later(-1)", x -> x.later(-1));
        refused("later(1001)", x -> x.later(1001));
        for (int far : FAR) {
            refused("later(" + far + ")", x -> x.later(far));
        }
        asked("later(0)", 15, x -> x.later(0));
        due("later(1)", 16, busy().later(1));
        due("later(1000)", 1015, busy().later(1000));
        for (int rest : new int[] {0, 1, 999, 1000}) {
            Twins.Calls before = x -> {
                busy(x);
                x.later(1000 - 15);
                for (int i = 0; i < 98; i++) {
                    x.later(1000);
                }
                due("the time", 100000 - rest, x.later(1000 - rest));
            };
            Twins.isRefused("later(" + (rest + 1) + ") with " + rest + " left", before, x -> x.later(rest + 1));
            GridLaws x = new GridLaws();
            before.on(x);
            due("later(" + rest + ") with so many left", 100000, x.later(rest));
            due("about(11)", 100000, x.about(11));
            due("no more", NONE, x.later(1));
            due("0 more", 100000, x.later(0));
        }
    }

    /** "how many; SPENT": any k. */
    private static void promise35Prints() {
        asked("prints(15)", 1, x -> x.prints(15));
        asked("prints(4)", 2, x -> x.prints(4));
        asked("prints(least)", 2, x -> x.prints(Integer.MIN_VALUE));
        asked("prints(greatest)", 1, x -> x.prints(Integer.MAX_VALUE));
        due("without slots", 1, Check.of(NO_SLOTS).prints(0));
        due("without acts", 0, new GridLaws().prints(0));
        GridLaws x = Check.of(NO_SLOTS);
        x.sight(1, 1, false);
        due("without slots, another letter", 1, x.prints(0));
        x.sight(1, 1, true);
        due("without slots, a letter", 0, x.prints(0));
    }

    /** "0 if it is not the same in all; NONE if there are no PRINTS, if SPENT, or the CELL is in no SLOT" */
    private static void promise36Sure() {
        // Sight 1: cell 2 is not c; sight 2: cell 8 is h. So adf over ceh, abc and fgh down.
        asked("sure(0, 15)", 1, x -> x.sure(0, 15));
        asked("sure(1, 15)", 4, x -> x.sure(1, 15));
        asked("sure(1, 4)", 0, x -> x.sure(1, 4));
        asked("sure(8, 4)", 8, x -> x.sure(8, 4));
        asked("sure of a black cell", NONE, x -> x.sure(4, 15));
        asked("sure(9, 15)", NONE, x -> x.sure(9, 15));
        for (int far : FAR) {
            asked("sure(" + far + ", 15)", NONE, x -> x.sure(far, 15));
        }
        due("no prints", NONE, Check.of("act abc;").sure(0, 0));
        due("no slots", NONE, Check.of(NO_SLOTS).sure(1, 0));
        GridLaws x = Check.of("size 2 by 3;black 0 1;black 1 1;black 1 2;act ab;");
        due("of a slot", 1, x.sure(0, 0));
        due("the slot's last cell", 2, x.sure(3, 0));
        due("a blank cell of no slot", NONE, x.sure(2, 0));
    }

    /** "NONE if there are no PRINTS, no SLOTS, if SPENT, or for another what" */
    private static void promise37Ask() {
        asked("ask(0, 15)", 0, x -> x.ask(0, 15));
        asked("ask(1, 15)", 1, x -> x.ask(1, 15));
        asked("ask(0, 4)", 1, x -> x.ask(0, 4));
        asked("ask(1, 4)", 1, x -> x.ask(1, 4));
        refused("ask(2, 15)", x -> x.ask(2, 15));
        refused("ask(-1, 15)", x -> x.ask(-1, 15));
        for (int far : FAR) {
            refused("ask(" + far + ", 15)", x -> x.ask(far, 15));
        }
        for (int what = 0; what <= 1; what++) {
            due("no prints", NONE, Check.of("act abc;").ask(what, 0));
            due("no slots", NONE, Check.of(NO_SLOTS).ask(what, 0));
        }
    }

    /** "in a BOX 0 .. 2: the year; NONE if there is none such" */
    private static void promise38Image() {
        refused("image(-1)", x -> x.image(-1));
        refused("image(3)", x -> x.image(3));
        for (int far : FAR) {
            refused("image(" + far + ")", x -> x.image(far));
        }
        for (int box = 0; box <= 2; box++) {
            GridLaws x = busy();
            due("image(" + box + ")", 1, x.image(box));
            due("what is kept to undo stays", 3, x.about(8));
            due("and to redo", 1, x.about(9));
            due("strike", 3, x.strike(2));
            x.sitting();
            due("back(" + box + ")", 1, x.back(box));
            due("the letter is there again", 3, x.square(2));
        }
    }

    /** "(nothing is kept to undo then): the year; NONE, doing nothing, if nothing was" */
    private static void promise39Back() {
        refused("back(1), an empty box", x -> x.back(1));
        refused("back(3)", x -> x.back(3));
        refused("back(-1)", x -> x.back(-1));
        for (int far : FAR) {
            refused("back(" + far + ")", x -> x.back(far));
        }
        GridLaws x = busy();
        due("back(0)", 0, x.back(0));
        due("abc is in force", 1, x.force());
        due("nothing to undo", 0, x.about(8));
        due("nor to redo", 0, x.about(9));
        due("sights stay", 3, x.about(10));
        due("the time stays", 15, x.about(11));
        due("the tape stays", 13, x.about(12));
        due("what lies there stays", 4, x.about(14));
        due("back(2)", 1, x.back(2));
        due("abc and ceh are in force", 9, x.force());
        due("back(0) once more", 0, x.back(0));
        x.sitting();
        due("one to undo", 1, x.about(8));
        Twins.stays("back to what is", y -> {
            busy(y);
            y.back(2);
        }, 1, y -> y.back(2));
    }

    /** "NONE for another what" */
    private static void promise40About() {
        int[] due = {5, 2, 3, 3, 1, 1, 1, 1, 3, 1, 3, 15, 13, 2, 4};
        for (int what = 0; what < due.length; what++) {
            int asks = what;
            asked("about(" + what + ")", due[what], x -> x.about(asks));
        }
        refused("about(-1)", x -> x.about(-1));
        refused("about(15)", x -> x.about(15));
        for (int far : FAR) {
            refused("about(" + far + ")", x -> x.about(far));
        }
    }
}
