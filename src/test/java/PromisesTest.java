/** Each promise by itself: ordinary calls, the edges that the document names, and wrong ones. */
public final class PromisesTest {
    private static final int NONE = GridLaws.NONE;
    private static final int SPENT = GridLaws.SPENT;
    private static final int GAP = GridLaws.GAP;
    private static final int[] ODD = {-1, -2, 99, Integer.MIN_VALUE, Integer.MAX_VALUE};

    /** Fills as at/so over as/to: at and so across, as and to down; or the other way around. */
    private static final String SQUARE = "size 2 by 2;party red;party blue;act at red 3;act so blue 2;"
            + "act as red 1 blue -1;act to blue 1;act ta red 9;if at and as then ta;never at to;force long;";
    /** A row of three, one of two, and a column of each: abc, d#e, fgh have cells 0 .. 8. */
    private static final String RING = "size 3 by 3;black 1 1;party p;party q;act abc p 2 q 1;act adf p -1;"
            + "act fgh q 5;act ceh p 3;act xyz q -2;";

    public static void main(String[] args) {
        newObject();
        tape();
        squaresAndSlots();
        fitting();
        writing();
        strikingAndBlackening();
        sittings();
        undoing();
        following();
        forceFormulas();
        worthAndBlanks();
        capital();
        nonsense();
        fillings();
        spent();
        best();
        reform();
        play();
        will();
        sights();
        times();
        asking();
        images();
        about();
        Check.finish("PromisesTest");
    }

    private static void due(String call, long want, long got) {
        Check.due(call, want, got);
    }

    private static void newObject() {
        GridLaws x = new GridLaws();
        int[] at = {0, 0, 3, 3, 0, 0, 0, 0, 0, 0, 0, 0, 0, 0, 0};
        for (int what = 0; what < at.length; what++) {
            due("new about " + what, at[what], x.about(what));
        }
        for (int cell = 0; cell < 9; cell++) {
            due("new square", 0, x.square(cell));
        }
        due("new slots", 6, x.slots());
        due("new fault", 0, x.fault(0));
        due("new place", NONE, x.fault(1));
        due("new lies", NONE, x.lies(0));
        due("new back", NONE, x.back(0));
        Check.due("new undo", false, x.undo());
        Check.due("new redo", false, x.redo());
        due("NONE", -1, GridLaws.NONE);
        due("SPENT", -2, GridLaws.SPENT);
        due("GAP", -1000000, GridLaws.GAP);
    }

    private static void tape() {
        GridLaws x = new GridLaws();
        for (int i = 1; i <= 80; i++) {
            due("feed", 20 * i, x.feed(0x20202020, 0x20202020, 0x20202020, 0x20202020, 0x0a0a0a0a));
        }
        due("feed on a full tape", NONE, x.feed(0, 0, 0, 0, 0));
        due("bytes", 1600, x.about(12));
        due("end all", 1600, x.end(1600));
        due("end too far", NONE, x.end(1601));
        due("end below 0", NONE, x.end(-1));
        due("bytes stay", 1600, x.about(12));
        due("end", 1581, x.end(1581));
        due("feed without room", NONE, x.feed(0, 0, 0, 0, 0));
        due("end", 1580, x.end(1580));
        // "act ab" with bytes of each place of a number, then what is no token.
        due("feed", 1600, x.feed(0x61637420, 0x61623b20, 0x20202020, 0x20202020, 0x20ff2020));
        due("grid", NONE, x.grid());
        due("place", 1597, x.fault(1));
        due("end", 1597, x.end(1597));
        due("grid", 1, x.grid());
        due("tape is empty", 0, x.about(12));
        due("end 0", 0, x.end(0));
        due("end 1", NONE, x.end(1));
    }

    private static void squaresAndSlots() {
        GridLaws x = Check.of("size 3 by 4;black 1 1;black 2 3;act abcd;act xyz;");
        // 0 1 2 3 / 4 # 6 7 / 8 9 10 #
        due("black", 27, x.square(5));
        due("black", 27, x.square(11));
        for (int cell : new int[] {-1, 12, Integer.MAX_VALUE, Integer.MIN_VALUE}) {
            due("no cell", NONE, x.square(cell));
        }
        int[] firsts = {0, 6, 8, 0, 2, 3};
        int[] sizes = {4, 2, 3, 3, 3, 2};
        int[] meets = {3, 2, 2, 2, 3, 2};
        due("slots", firsts.length, x.slots());
        for (int slot = 0; slot < firsts.length; slot++) {
            due("first of " + slot, firsts[slot], x.slot(slot, 0));
            due("size of " + slot, sizes[slot], x.slot(slot, 1));
            due("across " + slot, slot < 3 ? 1 : 0, x.slot(slot, 2));
            due("act of " + slot, NONE, x.slot(slot, 3));
            due("force of " + slot, 0, x.slot(slot, 4));
            due("meets of " + slot, meets[slot], x.slot(slot, 5));
            due("blank of " + slot, sizes[slot], x.slot(slot, 6));
            due("what 7", NONE, x.slot(slot, 7));
            due("what -1", NONE, x.slot(slot, -1));
        }
        for (int slot : new int[] {-1, 6, 99, Integer.MIN_VALUE, Integer.MAX_VALUE}) {
            due("no slot", NONE, x.slot(slot, 0));
        }
        x.write(0, 0);
        due("letter a", 1, x.square(0));
        due("letter d", 4, x.square(3));
        due("act", 0, x.slot(0, 3));
        due("force, not told", 1, x.slot(0, 4));
        due("blank", 0, x.slot(0, 6));
        due("blank of a crossing slot", 2, x.slot(3, 6));
        x = Check.of("act xyz;");
        x.write(0, 0);
        due("letter z", 26, x.square(2));
        // Those down go by first cells, not by columns.
        x = Check.of("size 4 by 2;black 0 0;");
        due("down first", 1, x.slot(3, 0));
        due("down second", 2, x.slot(4, 0));
        due("its size", 3, x.slot(4, 1));
        due("no slots", 0, Check.of("size 2 by 2;black 0 0;black 1 1;").slots());
    }

    private static void fitting() {
        GridLaws x = Check.of(RING);
        due("fits a row", 31, x.fits(0));
        due("places", 15, x.places(0));
        x.write(0, 0);
        due("fits, in force too", 1, x.fits(0));
        due("fits the second row", 31, x.fits(1));
        due("fits down from a", 3, x.fits(2));
        due("fits down from c", 8, x.fits(3));
        due("places of abc", 7, x.places(0));
        due("places of xyz", 2, x.places(4));
        due("places of ceh", 10, x.places(3));
        for (int odd : ODD) {
            due("fits no slot", NONE, x.fits(odd));
            due("places of no act", NONE, x.places(odd));
            due("wants of no party", GAP, x.wants(odd, 0));
            due("wants of no act", GAP, x.wants(0, odd));
        }
        due("fits slot 4", NONE, x.fits(4));
        due("places of act 5", NONE, x.places(5));
        due("wants", 2, x.wants(0, 0));
        due("wants below 0", -1, x.wants(0, 1));
        due("wants not told", 0, x.wants(1, 1));
        due("wants", -2, x.wants(1, 4));
        due("wants of party 2", GAP, x.wants(2, 0));
        due("wants of act 5", GAP, x.wants(0, 5));
        due("fits by length", 0, Check.of("act ab;act abcd;").fits(0));
    }

    private static void writing() {
        GridLaws x = Check.of(RING);
        due("write", 3, x.write(0, 0));
        due("write across a letter", 2, x.write(1, 2));
        due("write what is in force", NONE, x.write(0, 1));
        due("write what does not fit", NONE, x.write(4, 3));
        due("write over", NONE, x.write(4, 0));
        for (int odd : ODD) {
            due("write no act", NONE, x.write(odd, 1));
            due("write into no slot", NONE, x.write(2, odd));
        }
        due("write act 5", NONE, x.write(5, 1));
        due("write into slot 4", NONE, x.write(2, 4));
        due("two are kept", 2, x.about(8));
        due("write one letter", 2, x.write(2, 1));
        due("write the last letter", 1, x.write(3, 3));
        due("e", 5, x.square(5));
        due("all in force", 15, x.force());
    }

    private static void strikingAndBlackening() {
        GridLaws x = Check.of(RING);
        x.write(0, 0);
        due("strike", 2, x.strike(1));
        due("blank then", 0, x.square(1));
        due("strike a blank", NONE, x.strike(1));
        due("strike black", NONE, x.strike(4));
        for (int odd : ODD) {
            due("strike no cell", NONE, x.strike(odd));
            due("blacken no cell", NONE, x.blacken(odd));
        }
        due("strike cell 9", NONE, x.strike(9));
        due("kept", 2, x.about(8));
        due("not in force", 0, x.force());
        due("blacken", 2, x.blacken(0));
        due("black", 27, x.square(0));
        due("its letter is lost", NONE, x.strike(0));
        due("blacken black", NONE, x.blacken(0));
        due("slots are new", 4, x.slots());
        due("the first", 1, x.slot(0, 0));
        for (int i = 0; i < 6; i++) {
            due("blacken more", 3 + i, x.blacken(new int[] {1, 2, 3, 5, 6, 7}[i]));
        }
        due("a ninth", NONE, x.blacken(8));
        due("black ones", 8, x.about(5));
        Check.due("undo", true, x.undo());
        due("seven", 7, x.about(5));
        due("another eighth", 8, x.blacken(8));
    }

    private static void sittings() {
        GridLaws x = Check.of("size 2 by 3;party p;party q;act aba p 3 q 1;act bab p 3 q 2;act ab q 2;act zz p 9;");
        due("the most, and where first", 302, x.sitting());
        due("of like ones the first: bab", 100, Check.of("size 2 by 3;party q;act aba q 1;act bab q 2;act ab q 2;")
                .sitting());
        due("worth of p", 9, x.worth(0));
        due("year", 1, x.about(4));
        due("q can write ab alone, of length 2", 203, x.sitting());
        due("p: aba fits nowhere, bab neither", NONE, x.sitting());
        due("the year goes on", 3, x.about(4));
        due("kept, too", 3, x.about(8));
        GridLaws none = Check.of("act aba;");
        due("no party", NONE, none.sitting());
        due("year", 1, none.about(4));
        GridLaws zero = Check.of("party p;act aba p 0;act bab p -1;");
        due("nothing that is wanted", NONE, zero.sitting());
        GridLaws three = Check.of("party a;party b;party c;act aaa c 1;act bbb b 2;");
        due("a", NONE, three.sitting());
        due("b", 100, three.sitting());
        due("c", 1, three.sitting());
        due("a again", NONE, three.sitting());
        lastYears();
    }

    private static void lastYears() {
        GridLaws x = Check.of("party p;act abc p 1;force year/100;");
        for (int year = 0; year < 999; year++) {
            due("sitting", year == 0 ? 0 : NONE, x.sitting());
        }
        due("the last year", 999, x.about(4));
        due("worth in it", 9, x.will(0, 0));
        due("no sitting behind it", GAP, x.will(0, 1));
        due("no more", SPENT, x.sitting());
        due("nothing is done", 999, x.about(4));
        due("nor kept", 40, x.about(8));
        x.undo();
        due("one more", 9, x.will(0, 1));
        due("again", NONE, x.sitting());
        due("nothing to redo", 0, x.about(9));
    }

    private static void undoing() {
        GridLaws x = Check.of(RING);
        x.write(0, 0);
        x.strike(1);
        x.blacken(1);
        x.sitting();
        due("kept", 4, x.about(8));
        int slots = x.slots();
        Check.due("undo the sitting", true, x.undo());
        due("year", 0, x.about(4));
        Check.due("undo black", true, x.undo());
        due("blank", 0, x.square(1));
        Check.due("undo strike", true, x.undo());
        due("letter", 2, x.square(1));
        Check.due("undo write", true, x.undo());
        due("blank", 0, x.square(0));
        Check.due("no more", false, x.undo());
        due("to redo", 4, x.about(9));
        for (int i = 0; i < 4; i++) {
            Check.due("redo", true, x.redo());
        }
        Check.due("no more", false, x.redo());
        due("year", 1, x.about(4));
        due("slots", slots, x.slots());
        due("black", 27, x.square(1));
        x.undo();
        due("one to redo", 1, x.about(9));
        due("nothing done", NONE, x.strike(4));
        due("still one", 1, x.about(9));
        due("strike", 3, x.strike(2));
        due("none to redo", 0, x.about(9));
        Check.due("redo", false, x.redo());
        fortyAreKept();
    }

    private static void fortyAreKept() {
        GridLaws x = new GridLaws();
        for (int i = 0; i < 100; i++) {
            x.sitting();
            due("kept", Math.min(40, i + 1), x.about(8));
        }
        for (int i = 1; i <= 40; i++) {
            Check.due("undo", true, x.undo());
            due("year", 100 - i, x.about(4));
            due("to redo", i, x.about(9));
        }
        Check.due("the oldest are gone", false, x.undo());
        for (int i = 1; i <= 30; i++) {
            Check.due("redo", true, x.redo());
        }
        due("year", 90, x.about(4));
        x.sitting();
        due("kept", 31, x.about(8));
        due("to redo", 0, x.about(9));
    }

    private static void following() {
        // ab and ac cross at cell 0; cd is not written.
        GridLaws x = Check.of("size 3 by 3;black 0 2;black 2 0;act ab;act ac;act xx;act yy;act ww;"
                + "if ab and ac then xx;if xx and ab then yy;if yy and xx then ww;if ab and ww then ww;"
                + "never xx yy;never ab ac;never ab yy;");
        due("nothing", 0, x.follows());
        x.write(0, 0);
        due("one", 1, x.follows());
        due("against", 0, x.against());
        due("the slot down from cell 0", 0, x.slot(3, 0));
        x.write(1, 3);
        due("in force", 3, x.force());
        due("all follow", 31, x.follows());
        due("against", 3, x.against());
        x = Check.of("size 2 by 3;black 0 2;black 1 0;act ab;act ac;act de;act ad;if ab and de then ac;"
                + "if ac and de then ad;if de and ad then ab;");
        // # is cell 2 and 3: ab in 0 1, de in 4 5, down 1 4.
        x.write(0, 0);
        x.write(2, 1);
        due("both are in force", 5, x.force());
        due("but do not cross", 5, x.follows());
        x = Check.of("size 2 by 2;act ab;act ac;act bd;act cd;if ab and cd then bd;if ac and ab then cd;");
        x.write(0, 0);
        x.write(1, 2);
        due("one of both is not in force", 15, x.follows());
        x.write(3, 1);
        due("now both are, and do not cross, but bd is in force", 15, x.force());
        x = Check.of("size 2 by 2;act ab;act ac;act xx;act cd;if ab and cd then xx;if ac and ab then cd;");
        x.write(0, 0);
        x.write(1, 2);
        due("xx follows", 15, x.follows());
        x.write(3, 1);
        due("xx follows no more", 11, x.follows());
    }

    private static int forceBy(String formula, int slot) {
        GridLaws x = Check.of("size 3 by 4;black 0 3;act abc;act aeio;act bcd;force " + formula + ";");
        x.write(slot == 1 ? 1 : 0, slot);
        return x.slot(slot, 4);
    }

    private static void forceFormulas() {
        due("long", 4, forceBy("long", 1));
        due("vowels", 4, forceBy("vowels", 1));
        due("vowels", 1, forceBy("vowels", 0));
        due("across", 1, forceBy("across", 1));
        due("down", 0, forceBy("across", 3));
        due("row", 1, forceBy("line", 1));
        due("column", 2, forceBy("line", 5));
        due("year", 0, forceBy("year", 1));
        due("meets", 4, forceBy("meets", 1));
        due("meets", 3, forceBy("meets", 0));
        due("at most", 99, forceBy("100", 0));
        due("at most", 99, forceBy("9999*9999", 0));
        due("at least", 0, forceBy("1-2", 0));
        due("wraps", Math.max(0, Math.min(99, 9999 * 9999 * 22)), forceBy("9999*9999*22", 0));
        due("wraps", 46, forceBy("2147/1*1000*1000-2147*1000*1000+46", 0));
        due("wraps", 99, forceBy("0-9999*9999*21-9999*9999", 0));
        due("times first", 7, forceBy("1+2*3", 0));
        due("from the left", 3, forceBy("9-4-2", 0));
        due("from the left", 20, forceBy("100/10*2", 0));
        due("brackets", 9, forceBy("(1+2)*3", 0));
        due("cut", 3, forceBy("11/3", 0));
        due("cut towards 0", 7, forceBy("10+(0-11)/3", 0));
        due("rest", 8, forceBy("10+(0-11)%3", 0));
        due("by 0", 5, forceBy("5+7/0+7%0", 0));
        due("less", 1, forceBy("1<2", 0));
        due("less", 0, forceBy("2<2", 0));
        due("more", 1, forceBy("2+1>2", 0));
        due("more", 0, forceBy("2>2", 0));
        due("same", 1, forceBy("2=1+1", 0));
        due("same", 0, forceBy("2=3", 0));
        due("and", 1, forceBy("5 and 7", 0));
        due("and", 0, forceBy("5 and 0", 0));
        due("or", 1, forceBy("0 or 7", 0));
        due("or", 0, forceBy("0 or 0", 0));
        due("and first", 1, forceBy("1 or 0 and 0", 0));
        due("not", 0, forceBy("not 7", 0));
        due("not", 1, forceBy("not 0", 0));
        due("not of a relation", 1, forceBy("not 2<1", 0));
        due("not binds more than and", 0, forceBy("not 0 and 0", 0));
        due("not not", 1, forceBy("not not 5", 0));
        due("value as it is", 42, forceBy("(42)", 0));
        String nots = "not ".repeat(7);
        due("the longest formula", 1, forceBy((nots + "1 or ").repeat(29) + nots + "0", 0));
        due("the longest formula", 0, forceBy((nots + "1 or ").repeat(29) + nots + "1", 0));
        due("the deepest formula", 4, forceBy("1-(2-(3-(4-(5-(6-(7-(8)))))))+8", 0));
        due("the most to be joined", 36, forceBy("8+".repeat(3) + "3*(" + "1+".repeat(2) + "2*(1+1-(0<1 and 1=1)))", 0));
        GridLaws x = Check.of("act abc;force year+long;");
        x.write(0, 0);
        for (int year = 0; year < 120; year++) {
            due("by year", Math.min(99, 3 + year), x.slot(0, 4));
            x.sitting();
        }
    }

    private static void worthAndBlanks() {
        GridLaws x = Check.of(RING);
        due("worth of nothing", 0, x.worth(0));
        due("blanks", 8, x.blanks());
        x.write(0, 0);
        x.write(1, 2);
        due("worth", 1, x.worth(0));
        due("worth", 1, x.worth(1));
        due("blanks", 3, x.blanks());
        for (int odd : ODD) {
            due("worth of none", GAP, x.worth(odd));
        }
        due("worth of party 2", GAP, x.worth(2));
        // The same act in two slots counts twice: aa across, then ab and ab down make bb.
        x = Check.of("size 2 by 2;party p;act aa p 1;act ab p 3;act bb p 5;");
        x.write(0, 0);
        x.write(1, 2);
        due("ab down", 2, x.slots() - 2);
        x.write(2, 1);
        due("ab stands twice", 1, x.slot(3, 3));
        due("and counts twice", 12, x.worth(0));
        due("but is one act", 7, x.force());
        due("blanks of slots alone", 0, Check.of("size 2 by 2;black 0 0;black 1 1;").blanks());
    }

    private static void capital() {
        GridLaws x = Check.of(RING);
        due("none", NONE, x.capital());
        x.write(0, 0);
        due("none down", NONE, x.capital());
        x.write(3, 3);
        due("where they meet", 2, x.capital());
        x.write(1, 2);
        due("the first cell", 0, x.capital());
        // abcd over #e#f: be and df down; ef is no slot.
        x = Check.of("size 3 by 4;black 1 0;black 1 2;black 2 1;black 2 0;act abcd;act be;act dfg;act hg;");
        x.write(0, 0);
        due("down from cell 1", 1, x.slot(2, 0));
        x.write(1, 2);
        due("be", 1, x.capital());
        x.write(2, 3);
        due("the longest down", 3, x.capital());
        x.write(3, 1);
        due("the longest across", 3, x.capital());
        x.strike(0);
        due("another across", 11, x.capital());
    }

    private static void nonsense() {
        GridLaws x = Check.of("size 2 by 2;act ab;act cd;act ac;act ef;");
        due("none", 0, x.nonsense());
        x.write(0, 0);
        x.write(1, 1);
        due("bd is none, ac is one", 8, x.nonsense());
        due("force", 7, x.force());
        x.strike(3);
        due("with a blank it is none", 0, x.nonsense());
    }

    private static void fillings() {
        GridLaws x = Check.of(SQUARE);
        due("two ways", 2, x.fillings());
        x.write(0, 0);
        due("one way", 1, x.fillings());
        x.write(4, 3);
        due("tt has nothing behind", 0, x.fillings());
        due("1 without slots", 1, Check.of("size 2 by 2;black 0 0;black 1 1;act ab;").fillings());
        due("none without acts", 0, new GridLaws().fillings());
        due("each act once", 0, Check.of("size 2 by 2;act aa;").fillings());
        due("of another length", 0, Check.of("size 2 by 3;act aa;act aaa;").fillings());
        // aa, ab / ab twice: a full grid with an act in two slots is no filling.
        x = Check.of("size 2 by 2;party p;act aa;act ab;act bb;act ba;");
        x.write(0, 0);
        x.write(1, 2);
        x.write(2, 1);
        due("ab stands twice", 0, x.fillings());
        due("no best", GAP, x.best(0));
    }

    /** Six slots of two letters, of which the first is told: 20,000 are tried in all. */
    private static GridLaws sixSlots(boolean oneMore) {
        StringBuilder text = new StringBuilder("size 3 by 5;party p;black 0 2;black 1 2;black 2 2;");
        for (int i = 0; i < 8; i++) {
            text.append("act x").append((char) ('a' + i)).append(" p 1;");
        }
        for (int i = 0; i < 4; i++) {
            text.append("act y").append((char) ('a' + i)).append(";act z").append((char) ('a' + i)).append(';');
        }
        GridLaws x = Check.of(text.toString());
        String firsts = oneMore ? "xxyzy." : "xxyzyx";
        for (int slot = 0; slot < 6; slot++) {
            int act = firsts.charAt(slot) == 'x' ? 0 : firsts.charAt(slot) == 'y' ? 8 : 9;
            if (firsts.charAt(slot) != '.') {
                x.write(act, slot);
                x.strike(x.slot(slot, 0) + 1);
            }
        }
        return x;
    }

    private static void spent() {
        GridLaws x = sixSlots(false);
        due("20,000 are tried, not more", 0, x.fillings());
        due("no filling", GAP, x.span(0, 0));
        GridLaws more = sixSlots(true);
        due("more", SPENT, more.fillings());
        due("best", GAP, more.best(0));
        due("nothing lies there", 0, more.about(14));
        due("span", GAP, more.span(0, 1));
        due("prints", SPENT, x.prints(0));
        x.sight(2, 1, true);
        due("prints, though none can be", SPENT, x.prints(0));
        due("sure", NONE, x.sure(0, 0));
        due("ask", NONE, x.ask(0, 0));
        due("ask", NONE, x.ask(1, 0));
        due("20,001 are tried", SPENT, eightSlots().fillings());
    }

    /** Eight slots of two letters, of which the first is told: 20,001 are tried in all. */
    private static GridLaws eightSlots() {
        StringBuilder text = new StringBuilder("size 4 by 5;black 0 2;black 1 2;black 2 2;black 3 2;");
        for (int i = 0; i < 7; i++) {
            text.append("act x").append((char) ('a' + i)).append(';');
        }
        for (int i = 0; i < 3; i++) {
            text.append("act y").append((char) ('a' + i)).append(";act z").append((char) ('a' + i)).append(';');
        }
        GridLaws x = Check.of(text.toString());
        String firsts = "yyxyxzxx";
        for (int slot = 0; slot < 8; slot++) {
            x.write(firsts.charAt(slot) == 'x' ? 0 : firsts.charAt(slot) == 'y' ? 7 : 8, slot);
            x.strike(x.slot(slot, 0) + 1);
        }
        return x;
    }

    private static void best() {
        GridLaws x = Check.of(SQUARE);
        due("best", 8, x.best(0));
        for (int i = 0; i < 4; i++) {
            due("lies", i, x.lies(i));
        }
        due("lies 4", NONE, x.lies(4));
        for (int odd : ODD) {
            due("lies", NONE, x.lies(odd));
        }
        due("numbers", 4, x.about(14));
        x.write(2, 0);
        x.undo();
        due("they lie on", 2, x.lies(2));
        due("span of none", GAP, x.span(2, 0));
        due("still", 4, x.about(14));
        due("best of none", GAP, x.best(2));
        due("nothing lies there", NONE, x.lies(0));
        due("numbers", 0, x.about(14));
        due("best again", 8, x.best(0));
        due("grid", 0, Check.grid(x, ""));
        due("nothing lies there", NONE, x.lies(0));
        due("numbers", 0, x.about(14));
        due("grid", 5, Check.grid(x, SQUARE));
        for (int odd : ODD) {
            due("best of none", GAP, x.best(odd));
            due("span of none", GAP, x.span(odd, 0));
            due("span of another what", GAP, x.span(0, odd));
        }
        due("best without slots", 0, Check.of("size 2 by 2;party p;black 0 0;black 1 1;").best(0));
        // Force by line and way makes the two fillings unlike: at so/as to, or as to/at so.
        x = Check.of(SQUARE.replace("force long", "force across*(line+1)"));
        due("least of red", 1, x.span(0, 0));
        due("greatest of red", 3, x.span(0, 1));
        due("least of blue", -1 + 2, x.span(1, 0));
        due("greatest of blue", 4, x.span(1, 1));
        due("best for blue", 4, x.best(1));
        due("at is ahead", 0, x.lies(0));
        x.best(0);
        due("at for red", 0, x.lies(0));
        x.write(2, 0);
        due("what is written stays", 1, x.best(0));
        due("as is ahead", 2, x.lies(0));
        due("to", 3, x.lies(1));
        due("span", 1, x.span(0, 1));
    }

    private static void reform() {
        GridLaws x = Check.of(RING);
        due("nothing is other", 0, x.reform(4, 0));
        due("the first", 0, x.reform(4, 1));
        x.write(0, 0);
        due("in force", 0, x.reform(0, 0));
        due("that slot", 0, x.reform(0, 1));
        due("a blank one", 1, x.reform(4, 1));
        x.write(2, 1);
        due("the fewest", 2, x.reform(4, 0));
        due("the first of like ones", 2, x.reform(4, 1));
        due("adf in its column", 0, x.reform(1, 0));
        due("slot 2", 2, x.reform(1, 1));
        x = Check.of(RING);
        x.write(0, 1);
        due("in force, though a blank one is ahead", 1, x.reform(0, 1));
        due("none is other", 0, x.reform(0, 0));
        due("another what", NONE, x.reform(0, 2));
        for (int odd : ODD) {
            due("no act", NONE, x.reform(odd, 0));
            due("no what", NONE, x.reform(0, odd));
        }
        due("none as long", NONE, Check.of("act abcd;").reform(0, 0));
        due("none as long", NONE, Check.of("act abcd;").reform(0, 1));
    }

    private static void play() {
        GridLaws x = Check.of(SQUARE);
        x.write(2, 0);
        x.write(0, 2);
        due("what red has more", 28, x.play(0, 1, 0));
        due("ta", 401, x.play(0, 1, 1));
        due("no answer", NONE, x.play(0, 1, 2));
        due("blue", -4, x.play(1, 0, 0));
        due("to, and so with it", 301, x.play(1, 0, 1));
        for (int odd : ODD) {
            due("no party", GAP, x.play(odd, 0, 0));
            due("no other", GAP, x.play(0, odd, 0));
            due("no what", GAP, x.play(0, 1, odd));
        }
        due("no what", GAP, x.play(0, 1, 3));
        due("the same", GAP, x.play(1, 1, 0));
        x.write(3, 1);
        due("nothing can be written", GAP, x.play(0, 1, 0));
        due("nor asked", GAP, x.play(0, 1, 2));
        // Two slots that do not cross: each writes one, the other must, though it loses by it.
        x = Check.of("size 2 by 3;black 0 1;black 1 1;party p;party q;act ab p 5 q 1;act ba p 1 q 4;act cc p 9 q 3;");
        due("p writes cc, q ba", 3, x.play(0, 1, 0));
        due("the first of both slots", 200, x.play(0, 1, 1));
        due("ba into the second", 101, x.play(0, 1, 2));
        due("q writes ba, p cc", -3, x.play(1, 0, 0));
        due("ba", 100, x.play(1, 0, 1));
        due("cc", 201, x.play(1, 0, 2));
        due("nothing is done", 0, x.force());
        due("nor kept", 0, x.about(8));
        x = Check.of("size 2 by 3;black 0 1;black 1 1;party p;party q;act ab p 5;act ba p 1;");
        due("q must write", 6, x.play(0, 1, 0));
        due("ab is the first of like ones", 0, x.play(0, 1, 1));
        due("ba", 101, x.play(0, 1, 2));
    }

    private static void will() {
        GridLaws x = Check.of(SQUARE);
        due("now", 0, x.will(0, 0));
        due("red writes ta: 2 * 9", 18, x.will(0, 1));
        due("red behind what blue writes", 18, x.will(0, 2));
        due("blue writes so: 2 * 2", 4, x.will(1, 2));
        due("nothing is done", 0, x.about(4));
        due("nor written", 0, x.force());
        for (int odd : ODD) {
            due("no party", GAP, x.will(odd, 1));
            due("no n", GAP, x.will(0, odd));
        }
        due("61", GAP, x.will(0, 61));
        due("60", x.will(0, 59), x.will(0, 60));
        x = Check.of("party p;act abc p 1;force year;");
        due("by the year then", 60, x.will(0, 60));
        due("by the year then", 1, x.will(0, 1));
        due("by the year now", 0, x.will(0, 0));
    }

    private static void sights() {
        GridLaws x = Check.of("size 2 by 2;act at;act so;act as;act to;");
        due("two prints", 2, x.prints(0));
        due("a is sure", 1, x.sure(0, 0));
        due("o is sure", 15, x.sure(3, 0));
        due("t or s is not", 0, x.sure(1, 0));
        due("a sight", 0, x.sight(1, 20, true));
        due("one print", 1, x.prints(0));
        due("t", 20, x.sure(1, 0));
        due("s", 19, x.sure(2, 0));
        due("another sight", 1, x.sight(2, 19, false));
        due("none", 0, x.prints(0));
        due("sure of nothing", NONE, x.sure(0, 0));
        for (int odd : ODD) {
            due("no cell", NONE, x.sight(odd, 1, true));
            due("no letter", NONE, x.sight(0, odd, true));
            due("sure of no cell", NONE, x.sure(odd, -1));
        }
        due("no cell", NONE, x.sight(4, 1, true));
        due("no letter", NONE, x.sight(0, 0, true));
        due("no letter", NONE, x.sight(0, 27, true));
        due("two are told", 2, x.about(10));
        for (int i = 2; i < 30; i++) {
            due("more", i, x.sight(0, 26, false));
        }
        due("31", NONE, x.sight(0, 26, false));
        due("30", 30, x.about(10));
        // What is written does not count, black cells do.
        x = Check.of("size 2 by 2;act at;act so;act as;act to;act xx;");
        x.write(4, 0);
        due("of the empty grid", 2, x.prints(0));
        due("it can't be filled", 0, x.fillings());
        x = Check.of("size 2 by 3;act at;act so;act as;act to;");
        x.blacken(2);
        x.blacken(5);
        due("black cells as now", 2, x.prints(0));
        x.sight(2, 1, false);
        due("a black one has another", 2, x.prints(0));
        due("is in no slot", NONE, x.sure(2, 0));
        x.sight(2, 1, true);
        due("and not this", 0, x.prints(0));
        due("1 without slots", 1, Check.of("size 2 by 2;black 0 0;black 1 1;").prints(0));
    }

    private static void times() {
        GridLaws x = Check.of("size 2 by 2;act at;act so;act as;act to;");
        due("later", 0, x.later(0));
        due("later", 1000, x.later(1000));
        due("later", NONE, x.later(1001));
        due("later", NONE, x.later(-1));
        due("later", NONE, x.later(Integer.MAX_VALUE));
        due("later", NONE, x.later(Integer.MIN_VALUE));
        due("the time", 1000, x.about(11));
        x.sight(1, 20, true);
        x.later(5);
        x.sight(2, 1, true);
        x.later(5);
        Check.due("untell", true, x.untell(1));
        Check.due("it is so already", false, x.untell(1));
        for (int odd : ODD) {
            Check.due("no sight", false, x.untell(odd));
        }
        Check.due("no sight", false, x.untell(2));
        due("still two", 2, x.about(10));
        due("ahead", 2, x.prints(999));
        due("far ahead", 2, x.prints(Integer.MIN_VALUE));
        due("told", 1, x.prints(1000));
        due("both", 1, x.prints(1004));
        due("both", 0, x.prints(1005));
        due("both", 0, x.prints(1009));
        due("untold", 1, x.prints(1010));
        due("ever after", 1, x.prints(Integer.MAX_VALUE));
        due("sure at", 0, x.sure(1, 999));
        due("sure at", 20, x.sure(1, 1000));
        due("ask at", NONE, x.ask(0, 1007));
        x.sight(0, 2, true);
        Check.due("untold at the same time", true, x.untell(2));
        due("never counted", 1, x.prints(1010));
        for (int i = 0; i < 98; i++) {
            x.later(1000);
        }
        due("the time", 99010, x.about(11));
        due("too late", NONE, x.later(991));
        due("the last", 100000, x.later(990));
        due("no later", NONE, x.later(1));
        due("now", 100000, x.later(0));
        Check.grid(x, "");
        due("the time stays", 100000, x.about(11));
    }

    private static void asking() {
        GridLaws x = Check.of("size 2 by 2;act at;act so;act as;act to;");
        due("cell 1 parts them", 1, x.ask(0, 0));
        due("one is left", 1, x.ask(1, 0));
        due("another what", NONE, x.ask(2, 0));
        due("another what", NONE, x.ask(-1, 0));
        x.sight(1, 20, true);
        due("the first, all are alike", 0, x.ask(0, 0));
        due("one", 1, x.ask(1, 0));
        x.sight(0, 26, true);
        due("no prints", NONE, x.ask(0, 0));
        due("no prints", NONE, x.ask(1, 0));
        GridLaws none = Check.of("size 2 by 2;black 0 0;black 1 1;");
        due("no slots", NONE, none.ask(0, 0));
        due("no slots", NONE, none.ask(1, 0));
        // One slot of two: ab, ac, bb, cb leave two by cell 0, two by cell 1.
        x = Check.of("size 2 by 2;black 0 0;black 1 0;act ab;act ac;act bb;act cb;act cc;");
        due("down at cell 1", 1, x.slot(0, 0));
        due("five", 5, x.prints(0));
        due("a, b, c: two", 1, x.ask(0, 0));
        due("at the most", 2, x.ask(1, 0));
    }

    private static void images() {
        GridLaws x = Check.of(RING);
        for (int odd : ODD) {
            due("no box", NONE, x.image(odd));
            due("no box", NONE, x.back(odd));
        }
        due("no box", NONE, x.image(3));
        due("nothing was kept", NONE, x.back(2));
        x.sitting();
        due("kept", 1, x.image(2));
        x.write(2, 1);
        x.blacken(0);
        x.sitting();
        x.best(0);
        x.undo();
        due("back", 1, x.back(2));
        due("year", 1, x.about(4));
        due("black ones", 1, x.about(5));
        due("slots", 4, x.slots());
        due("nothing to undo", 0, x.about(8));
        due("nor to redo", 0, x.about(9));
        Check.due("undo", false, x.undo());
        Check.due("redo", false, x.redo());
        due("what p wanted most", 8, x.force());
        x.sitting();
        due("again", 1, x.back(2));
        due("anew", 0, Check.of("").image(2));
        due("another box is empty", NONE, x.back(0));
        x.sitting();
        due("kept over", 2, x.image(2));
        x.strike(0);
        due("back", 2, x.back(2));
    }

    private static void about() {
        GridLaws x = Check.of(SQUARE);
        int[] at = {5, 2, 2, 2, 0, 0, 1, 1, 0, 0, 0, 0, 0, 1, 0};
        for (int what = 0; what < at.length; what++) {
            due("about " + what, at[what], x.about(what));
        }
        for (int odd : ODD) {
            due("about", NONE, x.about(odd));
        }
        due("about", NONE, x.about(15));
        due("units", 7, about13("force (long+1)*(2-(vowels)) ;"));
        due("units", 1, about13("force not not 1;"));
        due("units", 0, about13(""));
        due("black", 2, Check.of("black 0 0;black 1 1;").about(5));
        due("columns", 5, Check.of("size 4 by 5;").about(3));
        due("rows", 4, Check.of("size 4 by 5;").about(2));
    }

    private static int about13(String text) {
        return Check.of(text).about(13);
    }
}
