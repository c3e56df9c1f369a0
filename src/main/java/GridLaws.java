import java.util.Arrays;

/**
 * A constitution in squares: acts are words that cross in a grid, and parties want something of
 * them. The words in capitals in the comments are those of the document.
 */
public final class GridLaws {
    public static final int NONE = -1;
    public static final int SPENT = -2;
    public static final int GAP = -1000000;

    private static final int MAX_BYTES = 1600;
    private static final int MAX_PARTIES = 3;
    private static final int MAX_ACTS = 16;
    private static final int MAX_LETTERS = 5;
    private static final int MAX_CELLS = 20;
    private static final int MAX_SLOTS = 16;
    private static final int MAX_BLACK = 8;
    private static final int MAX_RULES = 8;
    private static final int MAX_YEAR = 999;
    private static final int MAX_WILL = 60;
    private static final int MAX_TIME = 100000;
    private static final int MAX_LATER = 1000;
    private static final int MAX_TRIED = 20000;
    private static final int BOXES = 3;
    private static final int ALPHABET = 26;
    private static final int BLANK = 0;
    private static final int BLACK = 27;
    private static final int SQUARES = 28;

    private final Tape tape = new Tape();
    private Law law = new Law();
    private Law draft = new Law();
    private final Reader reader = new Reader(tape, draft);
    private final Board board = new Board(law);
    private final Board trial = new Board(law);
    private final History history = new History();
    private final Shelf boxes = new Shelf(BOXES);
    private final Sights sights = new Sights();
    private final Filler filler = new Filler(trial, sights);
    private final Duel duel = new Duel(trial);
    private final int[] lying = new int[MAX_SLOTS];
    private int lyingCount = 0;

    public GridLaws() {
        board.begin(law);
        history.begin(board);
    }

    public int feed(int a, int b, int c, int d, int e) {
        if (tape.length + 20 > MAX_BYTES) {
            return NONE;
        }
        tape.put(a);
        tape.put(b);
        tape.put(c);
        tape.put(d);
        tape.put(e);
        return tape.length;
    }

    public int end(int n) {
        if (n < 0 || n > tape.length) {
            return NONE;
        }
        tape.length = n;
        return n;
    }

    public int grid() {
        draft.clear();
        reader.begin(draft);
        for (int line = 0; line < MAX_BYTES && reader.hasLine(); line++) {
            if (!reader.readLine(line == 0)) {
                return NONE;
            }
        }
        takeDraft();
        return law.actCount;
    }

    private void takeDraft() {
        Law old = law;
        law = draft;
        draft = old;
        tape.length = 0;
        lyingCount = 0;
        board.begin(law);
        history.begin(board);
        sights.clear();
        boxes.clear();
    }

    public int fault(int what) {
        switch (what) {
            case 0:
                return reader.fault;
            case 1:
                return reader.faultPlace;
            default:
                return NONE;
        }
    }

    public int square(int cell) {
        return board.hasCell(cell) ? board.cells[cell] : NONE;
    }

    public int slots() {
        return board.slotCount;
    }

    public int slot(int slot, int what) {
        if (!board.hasSlot(slot)) {
            return NONE;
        }
        int act = board.acts[slot];
        switch (what) {
            case 0:
                return board.cellOf(slot, 0);
            case 1:
                return board.lengths[slot];
            case 2:
                return board.isAcross(slot) ? 1 : 0;
            case 3:
                return act;
            case 4:
                return act == NONE ? 0 : board.forceOf(act, slot);
            case 5:
                return board.meets[slot];
            case 6:
                return board.blanksIn[slot];
            default:
                return NONE;
        }
    }

    public int fits(int slot) {
        return board.hasSlot(slot) ? board.actsThatFit(slot) : NONE;
    }

    public int places(int act) {
        if (!law.hasAct(act)) {
            return NONE;
        }
        int bits = 0;
        for (int slot = 0; slot < board.slotCount; slot++) {
            bits |= isIn(board.actsThatFit(slot), act) ? 1 << slot : 0;
        }
        return bits;
    }

    public int wants(int party, int act) {
        return law.hasParty(party) && law.hasAct(act) ? law.wantOf(party, act) : GAP;
    }

    public int write(int act, int slot) {
        if (!law.hasAct(act) || !board.hasSlot(slot) || !isIn(board.actsToWrite(slot), act)) {
            return NONE;
        }
        int fresh = board.blanksIn[slot];
        board.putLetters(slot, act);
        board.lookAtSlots();
        history.keep(board);
        return fresh;
    }

    public int strike(int cell) {
        if (!board.hasLetter(cell)) {
            return NONE;
        }
        int letter = board.cells[cell];
        board.cells[cell] = BLANK;
        board.lookAtSlots();
        history.keep(board);
        return letter;
    }

    public int blacken(int cell) {
        if (!board.hasCell(cell) || board.cells[cell] == BLACK || board.countBlack() >= MAX_BLACK) {
            return NONE;
        }
        board.cells[cell] = BLACK;
        board.findSlots();
        history.keep(board);
        return board.countBlack();
    }

    public int sitting() {
        if (board.year >= MAX_YEAR) {
            return SPENT;
        }
        int written = board.sit();
        history.keep(board);
        return written;
    }

    public boolean undo() {
        return history.goBack(board);
    }

    public boolean redo() {
        return history.goForth(board);
    }

    public int force() {
        return board.inForce;
    }

    public int follows() {
        return board.consequences();
    }

    public int against() {
        int all = board.consequences();
        int count = 0;
        for (int i = 0; i < law.nevers.count; i++) {
            boolean both = isIn(all, law.nevers.first[i]) && isIn(all, law.nevers.second[i]);
            count += both ? 1 : 0;
        }
        return count;
    }

    public int worth(int party) {
        return law.hasParty(party) ? board.worthFor(party) : GAP;
    }

    public int blanks() {
        int count = 0;
        for (int cell = 0; cell < board.cellCount; cell++) {
            count += board.isInSlot(cell) && board.cells[cell] == BLANK ? 1 : 0;
        }
        return count;
    }

    public int capital() {
        int across = board.longestActAcross();
        int down = 0;
        int capital = NONE;
        for (int cell = 0; cell < board.cellCount && across > 0; cell++) {
            if (board.actLengthAt(board.acrossAt[cell]) == across
                    && board.actLengthAt(board.downAt[cell]) > down) {
                down = board.actLengthAt(board.downAt[cell]);
                capital = cell;
            }
        }
        return capital;
    }

    public int nonsense() {
        int bits = 0;
        for (int slot = 0; slot < board.slotCount; slot++) {
            bits |= board.blanksIn[slot] == 0 && board.acts[slot] == NONE ? 1 << slot : 0;
        }
        return bits;
    }

    public int fillings() {
        trial.follow(board);
        filler.fillAll(NONE);
        return filler.spent ? SPENT : filler.found;
    }

    public int best(int party) {
        lyingCount = 0;
        if (!findFillings(party)) {
            return GAP;
        }
        lyingCount = board.slotCount;
        for (int slot = 0; slot < lyingCount; slot++) {
            lying[slot] = filler.best[slot];
        }
        return filler.greatest;
    }

    public int span(int party, int what) {
        if (what < 0 || what > 1 || !findFillings(party)) {
            return GAP;
        }
        return what == 0 ? filler.least : filler.greatest;
    }

    private boolean findFillings(int party) {
        if (!law.hasParty(party)) {
            return false;
        }
        trial.follow(board);
        filler.fillAll(party);
        return !filler.spent && filler.found > 0;
    }

    public int reform(int act, int what) {
        if (!law.hasAct(act) || what < 0 || what > 1) {
            return NONE;
        }
        int slot = board.slotToReform(act);
        if (slot == NONE) {
            return NONE;
        }
        return what == 0 ? board.othersIn(slot, act) : slot;
    }

    public int play(int party, int other, int what) {
        if (!law.hasParty(party) || !law.hasParty(other) || party == other) {
            return GAP;
        }
        if (what < 0 || what > 2) {
            return GAP;
        }
        trial.follow(board);
        duel.playOut(party, other);
        if (duel.move == NONE) {
            return GAP;
        }
        if (what == 0) {
            return duel.outcome;
        }
        return what == 1 ? duel.move : duel.reply;
    }

    public int will(int party, int n) {
        if (!law.hasParty(party) || n < 0 || n > MAX_WILL || board.year + n > MAX_YEAR) {
            return GAP;
        }
        trial.follow(board);
        for (int i = 0; i < n; i++) {
            trial.sit();
        }
        return trial.worthFor(party);
    }

    public int lies(int i) {
        return i >= 0 && i < lyingCount ? lying[i] : NONE;
    }

    public int sight(int cell, int letter, boolean is) {
        if (!board.hasCell(cell) || letter < 1 || letter > ALPHABET) {
            return NONE;
        }
        return sights.tell(cell, letter, is);
    }

    public boolean untell(int sight) {
        return sights.takeBack(sight);
    }

    public int later(int by) {
        if (by < 0 || by > MAX_LATER || sights.time + by > MAX_TIME) {
            return NONE;
        }
        sights.time += by;
        return sights.time;
    }

    public int prints(int k) {
        findPrints(k);
        return filler.spent ? SPENT : filler.found;
    }

    public int sure(int cell, int k) {
        if (!board.hasCell(cell) || !board.isInSlot(cell) || !findPrints(k)) {
            return NONE;
        }
        for (int letter = 1; letter <= ALPHABET; letter++) {
            if (filler.printsWith(cell, letter) == filler.found) {
                return letter;
            }
        }
        return 0;
    }

    public int ask(int what, int k) {
        if (what < 0 || what > 1 || !findPrints(k)) {
            return NONE;
        }
        int best = NONE;
        int fewest = NONE;
        for (int cell = 0; cell < board.cellCount; cell++) {
            if (board.isInSlot(cell)) {
                int left = filler.mostPrintsBehind(cell);
                if (best == NONE || left < fewest) {
                    best = cell;
                    fewest = left;
                }
            }
        }
        return what == 0 ? best : fewest;
    }

    private boolean findPrints(int k) {
        trial.follow(board);
        trial.wipe();
        filler.fillSeen(k);
        return !filler.spent && filler.found > 0;
    }

    public int image(int box) {
        if (box < 0 || box >= BOXES) {
            return NONE;
        }
        boxes.put(box, board);
        return board.year;
    }

    public int back(int box) {
        if (!boxes.holds(box)) {
            return NONE;
        }
        boxes.take(box, board);
        history.begin(board);
        return board.year;
    }

    public int about(int what) {
        switch (what) {
            case 0:
                return law.actCount;
            case 1:
                return law.partyCount;
            case 2:
                return law.rows;
            case 3:
                return law.columns;
            case 4:
                return board.year;
            case 5:
                return board.countBlack();
            case 6:
                return law.ifs.count;
            case 7:
                return law.nevers.count;
            case 8:
                return history.behind;
            case 9:
                return history.ahead;
            case 10:
                return sights.count;
            case 11:
                return sights.time;
            case 12:
                return tape.length;
            case 13:
                return law.formula.units;
            case 14:
                return lyingCount;
            default:
                return NONE;
        }
    }

    private static boolean isIn(int bits, int index) {
        return (bits >>> index & 1) != 0;
    }

    /** The ifs, or the nevers: two ACTS each, and a third that only ifs have. */
    private static final class Rules {
        int count = 0;
        final int[] first = new int[MAX_RULES];
        final int[] second = new int[MAX_RULES];
        final int[] third = new int[MAX_RULES];

        boolean isFull() {
            return count >= MAX_RULES;
        }

        boolean hasPair(int one, int two) {
            for (int i = 0; i < count; i++) {
                if (first[i] == one && second[i] == two || first[i] == two && second[i] == one) {
                    return true;
                }
            }
            return false;
        }

        void add(int one, int two, int then) {
            if (!isFull()) {
                first[count] = one;
                second[count] = two;
                third[count] = then;
                count++;
            }
        }
    }

    /** The formula of force: steps behind one another, operands ahead of what joins them. */
    private static final class Formula {
        static final int MAX_UNITS = 30;
        static final int MAX_WITHIN = 6;
        static final int VARIABLES = 6;
        // Numbers stand as they are, variables as -1 .. -6, so what joins begins below these.
        static final int OR = -11;
        static final int AND = -12;
        static final int NOT = -13;
        static final int LESS = -14;
        static final int MORE = -15;
        static final int SAME = -16;
        static final int PLUS = -17;
        static final int MINUS = -18;
        static final int TIMES = -19;
        static final int OVER = -20;
        static final int REST = -21;
        static final int MOST_FORCE = 99;

        boolean told = false;
        int units = 0;
        int size = 0;
        // Each unit, one joining step less, and at most seven nots ahead of each unit.
        final int[] steps = new int[MAX_UNITS * 9];
        final int[] stack = new int[MAX_UNITS];
        final int[] variables = new int[VARIABLES];

        void clear() {
            told = false;
            units = 0;
            size = 0;
        }

        void add(int step) {
            if (size < steps.length) {
                steps[size] = step;
                size++;
            }
        }

        void setSlot(int length, int across, int line, int meets) {
            variables[0] = length;
            variables[2] = across;
            variables[3] = line;
            variables[5] = meets;
        }

        int forceFor(int vowels, int year) {
            variables[1] = vowels;
            variables[4] = year;
            return told ? Math.max(0, Math.min(MOST_FORCE, outcome())) : 1;
        }

        private int outcome() {
            int top = 0;
            for (int i = 0; i < size; i++) {
                int step = steps[i];
                if (step >= -VARIABLES) {
                    if (top < stack.length) {
                        stack[top] = step >= 0 ? step : variables[-1 - step];
                        top++;
                    }
                } else if (step == NOT) {
                    if (top >= 1) {
                        stack[top - 1] = stack[top - 1] == 0 ? 1 : 0;
                    }
                } else if (top >= 2) {
                    top--;
                    stack[top - 1] = joined(step, stack[top - 1], stack[top]);
                }
            }
            return stack[0];
        }

        private static int joined(int step, int a, int b) {
            switch (step) {
                case OR:
                    return a != 0 || b != 0 ? 1 : 0;
                case AND:
                    return a != 0 && b != 0 ? 1 : 0;
                case LESS:
                    return a < b ? 1 : 0;
                case MORE:
                    return a > b ? 1 : 0;
                case SAME:
                    return a == b ? 1 : 0;
                case PLUS:
                    return a + b;
                case MINUS:
                    return a - b;
                case TIMES:
                    return a * b;
                case OVER:
                    return b == 0 ? 0 : a / b;
                case REST:
                    return b == 0 ? 0 : a % b;
                default:
                    return 0;
            }
        }
    }

    /** What the text of a GRID told. */
    private static final class Law {
        private static final String VOWELS = "aeiou";

        int rows = 3;
        int columns = 3;
        int partyCount = 0;
        final long[] partyNames = new long[MAX_PARTIES];
        int actCount = 0;
        final long[] actNames = new long[MAX_ACTS];
        final int[] actLengths = new int[MAX_ACTS];
        final int[] letters = new int[MAX_ACTS * MAX_LETTERS];
        final int[] vowels = new int[MAX_ACTS];
        // ACTS as bits: those of a length, and those that could stand where a CELL has a letter.
        final int[] ofLength = new int[MAX_LETTERS + 1];
        final int[] withLetter = new int[MAX_LETTERS * SQUARES];
        final int[] wanted = new int[MAX_PARTIES * MAX_ACTS];
        int blackCount = 0;
        int blackCells = 0;
        final Rules ifs = new Rules();
        final Rules nevers = new Rules();
        final Formula formula = new Formula();

        void clear() {
            rows = 3;
            columns = 3;
            partyCount = 0;
            actCount = 0;
            blackCount = 0;
            blackCells = 0;
            ifs.count = 0;
            nevers.count = 0;
            formula.clear();
            Arrays.fill(wanted, 0);
            Arrays.fill(ofLength, 0);
            Arrays.fill(withLetter, 0);
        }

        boolean hasParty(int party) {
            return party >= 0 && party < partyCount;
        }

        boolean hasAct(int act) {
            return act >= 0 && act < actCount;
        }

        int wantOf(int party, int act) {
            return wanted[party * MAX_ACTS + act];
        }

        int letterOf(int act, int i) {
            return letters[act * MAX_LETTERS + i];
        }

        int partyNamed(long name) {
            return indexOf(partyNames, partyCount, name);
        }

        int actNamed(long name) {
            return indexOf(actNames, actCount, name);
        }

        private static int indexOf(long[] names, int count, long name) {
            for (int i = 0; i < count && i < names.length; i++) {
                if (names[i] == name) {
                    return i;
                }
            }
            return NONE;
        }

        void addParty(long name) {
            if (partyCount < MAX_PARTIES) {
                partyNames[partyCount] = name;
                partyCount++;
            }
        }

        void addAct(long name, int length) {
            if (actCount >= MAX_ACTS || length < 0 || length > MAX_LETTERS) {
                return;
            }
            actNames[actCount] = name;
            actLengths[actCount] = length;
            ofLength[length] |= 1 << actCount;
            vowels[actCount] = 0;
            long rest = name;
            for (int i = length - 1; i >= 0; i--) {
                addLetter(i, (int) (rest & 31));
                rest >>>= 5;
            }
            actCount++;
        }

        private void addLetter(int i, int letter) {
            letters[actCount * MAX_LETTERS + i] = letter;
            vowels[actCount] += isVowel(letter) ? 1 : 0;
            withLetter[i * SQUARES + BLANK] |= 1 << actCount;
            if (letter <= ALPHABET) {
                withLetter[i * SQUARES + letter] |= 1 << actCount;
            }
        }

        private static boolean isVowel(int letter) {
            return VOWELS.indexOf((char) ('a' - 1 + letter)) >= 0;
        }
    }

    /** The bytes of a text, and its TOKENS, one at a time. */
    private static final class Tape {
        static final int END = 0;
        static final int WORD = 1;
        static final int NUMBER = 2;
        static final int SIGN = 3;
        static final int BROKEN = 4;

        static final int SIZE = 0;
        static final int BY = 1;
        static final int PARTY = 2;
        static final int ACT = 3;
        static final int BLACKEN = 4;
        static final int IF = 5;
        static final int AND = 6;
        static final int THEN = 7;
        static final int NEVER = 8;
        static final int FORCE = 9;
        static final int OR = 10;
        static final int NOT = 11;
        static final int LONG = 12;
        static final int MEETS = 17;
        private static final int KEYWORDS = 18;
        private static final String SPELLED =
            "size by party act black if and then never force or not long vowels across line year meets ";
        private static final String SIGNS = ";()<>=+-*/%";
        private static final int MAX_WORD = 8;
        private static final int MAX_DIGITS = 4;

        int length = 0;
        private final byte[] bytes = new byte[MAX_BYTES];
        private final long[] keywords = new long[KEYWORDS];
        private int next = 0;
        int kind = END;
        int place = 0;
        int size = 0;
        long word = 0;
        int number = 0;
        private char sign = ' ';

        Tape() {
            int count = 0;
            for (int i = 0; i < SPELLED.length() && count < KEYWORDS; i++) {
                char letter = SPELLED.charAt(i);
                if (letter == ' ') {
                    count++;
                } else {
                    keywords[count] = keywords[count] * 32 + (letter - 'a' + 1);
                }
            }
        }

        void put(int four) {
            for (int shift = 24; shift >= 0 && length < MAX_BYTES; shift -= 8) {
                bytes[length] = (byte) (four >>> shift);
                length++;
            }
        }

        void rewind() {
            next = 0;
            advance();
        }

        void advance() {
            while (next < length && (bytes[next] == ' ' || bytes[next] == '\n')) {
                next++;
            }
            place = next;
            if (next >= length) {
                kind = END;
            } else if (isLetter(next)) {
                readWord();
            } else if (isDigit(next)) {
                readNumber();
            } else {
                readSign();
            }
        }

        private boolean isLetter(int at) {
            return at < length && bytes[at] >= 'a' && bytes[at] <= 'z';
        }

        private boolean isDigit(int at) {
            return at < length && bytes[at] >= '0' && bytes[at] <= '9';
        }

        private void readWord() {
            word = 0;
            while (next < length && isLetter(next)) {
                word = word * 32 + (bytes[next] - 'a' + 1);
                next++;
            }
            size = next - place;
            kind = size <= MAX_WORD ? WORD : BROKEN;
        }

        private void readNumber() {
            number = 0;
            while (next < length && isDigit(next)) {
                number = number * 10 + (bytes[next] - '0');
                next++;
            }
            size = next - place;
            kind = size <= MAX_DIGITS && !isLetter(next) ? NUMBER : BROKEN;
        }

        private void readSign() {
            sign = (char) (bytes[next] & 255);
            kind = SIGNS.indexOf(sign) >= 0 ? SIGN : BROKEN;
            next++;
        }

        /** The number of the word that stands for itself here, or NONE. */
        int keyword() {
            for (int i = 0; i < KEYWORDS && kind == WORD; i++) {
                if (keywords[i] == word) {
                    return i;
                }
            }
            return NONE;
        }

        boolean isKeyword(int wanted) {
            return keyword() == wanted;
        }

        boolean isSign(char wanted) {
            return kind == SIGN && sign == wanted;
        }

        boolean isName() {
            return kind == WORD && keyword() == NONE;
        }
    }

    /** Reads a text into a Law, up to its first FAULT; what it reads answers false, or NONE, there. */
    private static final class Reader {
        private static final int MOST_WANTED = 9;
        private static final int MAX_NUMBER = 9999;

        private final Tape tokens;
        private Law law;
        int fault = 0;
        int faultPlace = NONE;
        private int toldParties = 0;

        Reader(Tape tape, Law draft) {
            tokens = tape;
            law = draft;
        }

        void begin(Law draft) {
            law = draft;
            fault = 0;
            faultPlace = NONE;
            tokens.rewind();
        }

        boolean hasLine() {
            return tokens.kind != Tape.END;
        }

        private boolean refuse(int why) {
            // A text that is no TOKEN can't be what was waited for, and its FAULT is the least.
            return refuseAt(tokens.kind == Tape.BROKEN ? 1 : why, tokens.place);
        }

        private boolean refuseAt(int why, int place) {
            fault = why;
            faultPlace = place;
            return false;
        }

        boolean readLine(boolean isFirst) {
            switch (tokens.keyword()) {
                case Tape.SIZE:
                    return enter(isFirst) && readSize() && takeSign(';');
                case Tape.PARTY:
                    return enter(law.partyCount < MAX_PARTIES) && readParty() && takeSign(';');
                case Tape.ACT:
                    return enter(law.actCount < MAX_ACTS) && readAct() && takeSign(';');
                case Tape.BLACKEN:
                    return enter(law.blackCount < MAX_BLACK) && readBlack() && takeSign(';');
                case Tape.IF:
                    return enter(!law.ifs.isFull()) && readIf() && takeSign(';');
                case Tape.NEVER:
                    return enter(!law.nevers.isFull()) && readNever() && takeSign(';');
                case Tape.FORCE:
                    return enter(!law.formula.told) && readForce() && takeSign(';');
                default:
                    return refuse(2);
            }
        }

        private boolean enter(boolean hasRoom) {
            if (!hasRoom) {
                return refuse(2);
            }
            tokens.advance();
            return true;
        }

        private boolean takeSign(char sign) {
            if (!tokens.isSign(sign)) {
                return refuse(2);
            }
            tokens.advance();
            return true;
        }

        private boolean takeKeyword(int keyword) {
            if (!tokens.isKeyword(keyword)) {
                return refuse(2);
            }
            tokens.advance();
            return true;
        }

        private int takeNumber(int least, int most, int place) {
            if (tokens.kind != Tape.NUMBER) {
                refuse(2);
                return NONE;
            }
            int number = tokens.number;
            if (number < least || number > most) {
                refuseAt(4, place);
                return NONE;
            }
            tokens.advance();
            return number;
        }

        private int takeAct() {
            if (!tokens.isName()) {
                refuse(2);
                return NONE;
            }
            int act = law.actNamed(tokens.word);
            if (act == NONE) {
                refuse(5);
                return NONE;
            }
            tokens.advance();
            return act;
        }

        private boolean readSize() {
            int rows = takeNumber(2, 4, tokens.place);
            if (rows == NONE || !takeKeyword(Tape.BY)) {
                return false;
            }
            int columns = takeNumber(2, 5, tokens.place);
            if (columns == NONE) {
                return false;
            }
            law.rows = rows;
            law.columns = columns;
            return true;
        }

        private boolean readParty() {
            if (!tokens.isName()) {
                return refuse(2);
            }
            if (law.partyNamed(tokens.word) != NONE) {
                return refuse(3);
            }
            law.addParty(tokens.word);
            tokens.advance();
            return true;
        }

        private boolean readAct() {
            if (!tokens.isName()) {
                return refuse(2);
            }
            if (law.actNamed(tokens.word) != NONE) {
                return refuse(3);
            }
            if (tokens.size < 2 || tokens.size > MAX_LETTERS) {
                return refuse(4);
            }
            law.addAct(tokens.word, tokens.size);
            tokens.advance();
            toldParties = 0;
            // One round more than there are PARTIES: the last one only meets a FAULT.
            for (int i = 0; i <= MAX_PARTIES && tokens.isName(); i++) {
                if (!readWant(law.actCount - 1)) {
                    return false;
                }
            }
            return true;
        }

        private boolean readWant(int act) {
            int party = law.partyNamed(tokens.word);
            if (party == NONE) {
                return refuse(5);
            }
            if (isIn(toldParties, party)) {
                return refuse(3);
            }
            toldParties |= 1 << party;
            tokens.advance();
            int place = tokens.place;
            boolean isBelow = tokens.isSign('-');
            if (isBelow) {
                tokens.advance();
            }
            int number = takeNumber(0, MOST_WANTED, place);
            if (number == NONE) {
                return false;
            }
            law.wanted[party * MAX_ACTS + act] = isBelow ? -number : number;
            return true;
        }

        private boolean readBlack() {
            int row = takeNumber(0, law.rows - 1, tokens.place);
            if (row == NONE) {
                return false;
            }
            int place = tokens.place;
            int column = takeNumber(0, law.columns - 1, place);
            if (column == NONE) {
                return false;
            }
            int cell = row * law.columns + column;
            if (isIn(law.blackCells, cell)) {
                return refuseAt(3, place);
            }
            law.blackCells |= 1 << cell;
            law.blackCount++;
            return true;
        }

        private boolean readIf() {
            int first = takeAct();
            if (first == NONE || !takeKeyword(Tape.AND)) {
                return false;
            }
            int second = takeSecond(law.ifs, first);
            if (second == NONE || !takeKeyword(Tape.THEN)) {
                return false;
            }
            int third = takeAct();
            if (third == NONE) {
                return false;
            }
            law.ifs.add(first, second, third);
            return true;
        }

        private boolean readNever() {
            int first = takeAct();
            if (first == NONE) {
                return false;
            }
            int second = takeSecond(law.nevers, first);
            if (second == NONE) {
                return false;
            }
            law.nevers.add(first, second, NONE);
            return true;
        }

        private int takeSecond(Rules rules, int first) {
            int place = tokens.place;
            int second = takeAct();
            if (second != NONE && (second == first || rules.hasPair(first, second))) {
                refuseAt(3, place);
                return NONE;
            }
            return second;
        }

        private boolean readForce() {
            law.formula.told = true;
            return readAny(0);
        }

        private boolean readAny(int within) {
            if (!readBoth(within)) {
                return false;
            }
            for (int i = 0; i < Formula.MAX_UNITS && tokens.isKeyword(Tape.OR); i++) {
                tokens.advance();
                if (!readBoth(within)) {
                    return false;
                }
                law.formula.add(Formula.OR);
            }
            return true;
        }

        private boolean readBoth(int within) {
            if (!readOne(within)) {
                return false;
            }
            for (int i = 0; i < Formula.MAX_UNITS && tokens.isKeyword(Tape.AND); i++) {
                tokens.advance();
                if (!readOne(within)) {
                    return false;
                }
                law.formula.add(Formula.AND);
            }
            return true;
        }

        private boolean readOne(int within) {
            if (tokens.isKeyword(Tape.NOT)) {
                if (!enter(within <= Formula.MAX_WITHIN) || !readOne(within + 1)) {
                    return false;
                }
                law.formula.add(Formula.NOT);
                return true;
            }
            if (!readSum(within)) {
                return false;
            }
            int relation = relationHere();
            if (relation == NONE) {
                return true;
            }
            tokens.advance();
            if (!readSum(within)) {
                return false;
            }
            law.formula.add(relation);
            return true;
        }

        private boolean readSum(int within) {
            if (!readTerm(within)) {
                return false;
            }
            int sign = sumSignHere();
            for (int i = 0; i < Formula.MAX_UNITS && sign != NONE; i++) {
                tokens.advance();
                if (!readTerm(within)) {
                    return false;
                }
                law.formula.add(sign);
                sign = sumSignHere();
            }
            return true;
        }

        private boolean readTerm(int within) {
            if (!readUnit(within)) {
                return false;
            }
            int sign = termSignHere();
            for (int i = 0; i < Formula.MAX_UNITS && sign != NONE; i++) {
                tokens.advance();
                if (!readUnit(within)) {
                    return false;
                }
                law.formula.add(sign);
                sign = termSignHere();
            }
            return true;
        }

        private boolean readUnit(int within) {
            if (law.formula.units >= Formula.MAX_UNITS) {
                return refuse(2);
            }
            law.formula.units++;
            if (tokens.isSign('(')) {
                return enter(within <= Formula.MAX_WITHIN) && readAny(within + 1) && takeSign(')');
            }
            if (tokens.kind == Tape.NUMBER) {
                law.formula.add(takeNumber(0, MAX_NUMBER, tokens.place));
                return true;
            }
            int variable = tokens.keyword();
            if (variable < Tape.LONG || variable > Tape.MEETS) {
                return refuse(2);
            }
            law.formula.add(-1 - (variable - Tape.LONG));
            tokens.advance();
            return true;
        }

        private int relationHere() {
            if (tokens.isSign('<')) {
                return Formula.LESS;
            }
            if (tokens.isSign('>')) {
                return Formula.MORE;
            }
            return tokens.isSign('=') ? Formula.SAME : NONE;
        }

        private int sumSignHere() {
            if (tokens.isSign('+')) {
                return Formula.PLUS;
            }
            return tokens.isSign('-') ? Formula.MINUS : NONE;
        }

        private int termSignHere() {
            if (tokens.isSign('*')) {
                return Formula.TIMES;
            }
            if (tokens.isSign('/')) {
                return Formula.OVER;
            }
            return tokens.isSign('%') ? Formula.REST : NONE;
        }
    }

    /** The CELLS and the year, with the SLOTS and what stands in them. */
    private static final class Board {
        private Law law;
        int year = 0;
        int cellCount = 0;
        final int[] cells = new int[MAX_CELLS];
        int slotCount = 0;
        int acrossCount = 0;
        final int[] slotCells = new int[MAX_SLOTS * MAX_LETTERS];
        final int[] lengths = new int[MAX_SLOTS];
        final int[] lines = new int[MAX_SLOTS];
        final int[] meets = new int[MAX_SLOTS];
        final int[] acrossAt = new int[MAX_CELLS];
        final int[] downAt = new int[MAX_CELLS];
        final int[] acts = new int[MAX_SLOTS];
        final int[] blanksIn = new int[MAX_SLOTS];
        int inForce = 0;

        Board(Law law) {
            this.law = law;
        }

        void begin(Law newLaw) {
            law = newLaw;
            year = 0;
            cellCount = law.rows * law.columns;
            for (int cell = 0; cell < cellCount; cell++) {
                cells[cell] = isIn(law.blackCells, cell) ? BLACK : BLANK;
            }
            findSlots();
        }

        void follow(Board other) {
            law = other.law;
            year = other.year;
            cellCount = other.cellCount;
            System.arraycopy(other.cells, 0, cells, 0, MAX_CELLS);
            findSlots();
        }

        void wipe() {
            for (int cell = 0; cell < cellCount; cell++) {
                cells[cell] = cells[cell] == BLACK ? BLACK : BLANK;
            }
            lookAtSlots();
        }

        boolean hasCell(int cell) {
            return cell >= 0 && cell < cellCount;
        }

        boolean hasLetter(int cell) {
            return hasCell(cell) && cells[cell] != BLANK && cells[cell] != BLACK;
        }

        boolean hasSlot(int slot) {
            return slot >= 0 && slot < slotCount;
        }

        boolean isAcross(int slot) {
            return slot < acrossCount;
        }

        boolean isInSlot(int cell) {
            return acrossAt[cell] != NONE || downAt[cell] != NONE;
        }

        boolean isInForce(int act) {
            return isIn(inForce, act);
        }

        int cellOf(int slot, int i) {
            return slotCells[slot * MAX_LETTERS + i];
        }

        int crossingAt(int slot, int cell) {
            return isAcross(slot) ? downAt[cell] : acrossAt[cell];
        }

        int countBlack() {
            int count = 0;
            for (int cell = 0; cell < cellCount; cell++) {
                count += cells[cell] == BLACK ? 1 : 0;
            }
            return count;
        }

        void findSlots() {
            slotCount = 0;
            Arrays.fill(acrossAt, NONE);
            Arrays.fill(downAt, NONE);
            for (int row = 0; row < law.rows; row++) {
                for (int column = 0; column < law.columns; column++) {
                    findSlot(row * law.columns + column, 1, column, law.columns, row);
                }
            }
            acrossCount = slotCount;
            for (int row = 0; row < law.rows; row++) {
                for (int column = 0; column < law.columns; column++) {
                    findSlot(row * law.columns + column, law.columns, row, law.rows, column);
                }
            }
            countMeets();
            lookAtSlots();
        }

        /** The CELL is the along-th of its line, which has so many CELLS, each a step behind another. */
        private void findSlot(int cell, int step, int along, int cellsInLine, int line) {
            boolean isFirst = along == 0 || cells[cell - step] == BLACK;
            if (!isFirst || slotCount >= MAX_SLOTS) {
                return;
            }
            int length = 0;
            while (along + length < cellsInLine && cells[cell + length * step] != BLACK) {
                length++;
            }
            if (length < 2) {
                return;
            }
            lengths[slotCount] = length;
            lines[slotCount] = line;
            int[] slotAt = step == 1 ? acrossAt : downAt;
            for (int i = 0; i < length; i++) {
                slotCells[slotCount * MAX_LETTERS + i] = cell + i * step;
                slotAt[cell + i * step] = slotCount;
            }
            slotCount++;
        }

        private void countMeets() {
            for (int slot = 0; slot < slotCount; slot++) {
                meets[slot] = 0;
                for (int i = 0; i < lengths[slot]; i++) {
                    meets[slot] += crossingAt(slot, cellOf(slot, i)) != NONE ? 1 : 0;
                }
            }
        }

        void lookAtSlots() {
            inForce = 0;
            for (int slot = 0; slot < slotCount; slot++) {
                blanksIn[slot] = 0;
                for (int i = 0; i < lengths[slot]; i++) {
                    blanksIn[slot] += cells[cellOf(slot, i)] == BLANK ? 1 : 0;
                }
                acts[slot] = blanksIn[slot] == 0 ? actSpelledIn(slot) : NONE;
                inForce |= acts[slot] == NONE ? 0 : 1 << acts[slot];
            }
        }

        /** For a SLOT without a blank CELL: there, what FITS is what it spells. */
        int actSpelledIn(int slot) {
            int bits = actsThatFit(slot);
            return bits == 0 ? NONE : Integer.numberOfTrailingZeros(bits);
        }

        int actsThatFit(int slot) {
            int length = lengths[slot];
            int ofSlot = slot * MAX_LETTERS;
            int bits = law.ofLength[length];
            for (int i = 0; i < length && bits != 0; i++) {
                bits &= law.withLetter[i * SQUARES + cells[slotCells[ofSlot + i]]];
            }
            return bits;
        }

        int actsToWrite(int slot) {
            return actsThatFit(slot) & ~inForce;
        }

        int othersIn(int slot, int act) {
            int count = 0;
            for (int i = 0; i < lengths[slot]; i++) {
                int here = cells[cellOf(slot, i)];
                count += here != BLANK && here != law.letterOf(act, i) ? 1 : 0;
            }
            return count;
        }

        /** Which CELLS of the SLOT are blank, as bits: what takeLetters wants behind putLetters. */
        int blanksOf(int slot) {
            int bits = 0;
            for (int i = 0; i < lengths[slot]; i++) {
                bits |= cells[cellOf(slot, i)] == BLANK ? 1 << i : 0;
            }
            return bits;
        }

        void putLetters(int slot, int act) {
            int ofSlot = slot * MAX_LETTERS;
            int ofAct = act * MAX_LETTERS;
            int length = lengths[slot];
            for (int i = 0; i < length; i++) {
                cells[slotCells[ofSlot + i]] = law.letters[ofAct + i];
            }
        }

        void takeLetters(int slot, int fresh) {
            for (int i = 0; i < lengths[slot]; i++) {
                if (isIn(fresh, i)) {
                    cells[cellOf(slot, i)] = BLANK;
                }
            }
        }

        int sit() {
            int written = NONE;
            int act = law.partyCount > 0 ? mostWanted(year % law.partyCount) : NONE;
            int slot = act == NONE ? NONE : firstPlace(act);
            if (slot != NONE) {
                putLetters(slot, act);
                lookAtSlots();
                written = 100 * act + slot;
            }
            year++;
            return written;
        }

        private int mostWanted(int party) {
            int open = 0;
            for (int slot = 0; slot < slotCount; slot++) {
                open |= actsToWrite(slot);
            }
            int most = 0;
            int wanted = NONE;
            for (int act = 0; act < law.actCount; act++) {
                if (isIn(open, act) && law.wantOf(party, act) > most) {
                    most = law.wantOf(party, act);
                    wanted = act;
                }
            }
            return wanted;
        }

        private int firstPlace(int act) {
            for (int slot = 0; slot < slotCount; slot++) {
                if (isIn(actsThatFit(slot), act)) {
                    return slot;
                }
            }
            return NONE;
        }

        int forceOf(int act, int slot) {
            law.formula.setSlot(lengths[slot], isAcross(slot) ? 1 : 0, lines[slot], meets[slot]);
            return law.formula.forceFor(law.vowels[act], year);
        }

        int worthFor(int party) {
            int worth = 0;
            for (int slot = 0; slot < slotCount; slot++) {
                int act = acts[slot];
                worth += act == NONE ? 0 : forceOf(act, slot) * law.wantOf(party, act);
            }
            return worth;
        }

        /** What each ACT in each SLOT as long brings a PARTY, less what it brings another (or NONE). */
        void findGains(int[] gains, int party, int other) {
            for (int slot = 0; slot < slotCount; slot++) {
                for (int act = 0; act < law.actCount; act++) {
                    int want = party == NONE ? 0 : law.wantOf(party, act);
                    want -= other == NONE ? 0 : law.wantOf(other, act);
                    boolean counts = want != 0 && law.actLengths[act] == lengths[slot];
                    gains[slot * MAX_ACTS + act] = counts ? want * forceOf(act, slot) : 0;
                }
            }
        }

        int consequences() {
            int all = inForce;
            // Each round but the last adds an ACT.
            for (int round = 0; round < MAX_ACTS; round++) {
                int before = all;
                for (int i = 0; i < law.ifs.count; i++) {
                    int one = law.ifs.first[i];
                    int two = law.ifs.second[i];
                    if (isIn(all, one) && isIn(all, two) && applies(one, two)) {
                        all |= 1 << law.ifs.third[i];
                    }
                }
                if (all == before) {
                    break;
                }
            }
            return all;
        }

        private boolean applies(int one, int two) {
            return !isInForce(one) || !isInForce(two) || doCross(one, two) || doCross(two, one);
        }

        private boolean doCross(int oneAcross, int oneDown) {
            for (int cell = 0; cell < cellCount; cell++) {
                if (acrossAt[cell] != NONE && downAt[cell] != NONE
                        && acts[acrossAt[cell]] == oneAcross && acts[downAt[cell]] == oneDown) {
                    return true;
                }
            }
            return false;
        }

        int actLengthAt(int slot) {
            return slot == NONE || acts[slot] == NONE ? 0 : lengths[slot];
        }

        int longestActAcross() {
            int longest = 0;
            for (int slot = 0; slot < acrossCount; slot++) {
                longest = Math.max(longest, actLengthAt(slot));
            }
            return longest;
        }

        int slotToReform(int act) {
            int found = NONE;
            int fewest = 0;
            for (int slot = 0; slot < slotCount; slot++) {
                if (acts[slot] == act) {
                    return slot;
                }
                if (lengths[slot] == law.actLengths[act]) {
                    int others = othersIn(slot, act);
                    if (found == NONE || others < fewest) {
                        found = slot;
                        fewest = others;
                    }
                }
            }
            return found;
        }
    }

    /** Places for CELLS and the year. */
    private static final class Shelf {
        private static final int ROOM = MAX_CELLS + 1;

        private final int count;
        private final int[] kept;
        private final boolean[] filled;

        Shelf(int count) {
            this.count = Math.max(0, count);
            kept = new int[this.count * ROOM];
            filled = new boolean[this.count];
        }

        void clear() {
            for (int at = 0; at < count; at++) {
                filled[at] = false;
            }
        }

        boolean holds(int at) {
            return at >= 0 && at < count && filled[at];
        }

        void put(int at, Board board) {
            if (at >= 0 && at < count) {
                System.arraycopy(board.cells, 0, kept, at * ROOM, MAX_CELLS);
                kept[at * ROOM + MAX_CELLS] = board.year;
                filled[at] = true;
            }
        }

        void take(int at, Board board) {
            if (at >= 0 && at < count) {
                System.arraycopy(kept, at * ROOM, board.cells, 0, MAX_CELLS);
                board.year = kept[at * ROOM + MAX_CELLS];
                board.findSlots();
            }
        }
    }

    /** The states between the ACTS OF ALL that are kept, on a ring of places. */
    private static final class History {
        private static final int MAX_KEPT = 40;
        private static final int PLACES = MAX_KEPT + 1;

        private final Shelf states = new Shelf(PLACES);
        private int place = 0;
        int behind = 0;
        int ahead = 0;

        void begin(Board board) {
            behind = 0;
            ahead = 0;
            states.put(place, board);
        }

        void keep(Board board) {
            place = (place + 1) % PLACES;
            behind = Math.min(MAX_KEPT, behind + 1);
            ahead = 0;
            states.put(place, board);
        }

        boolean goBack(Board board) {
            if (behind == 0) {
                return false;
            }
            behind--;
            ahead++;
            place = (place + PLACES - 1) % PLACES;
            states.take(place, board);
            return true;
        }

        boolean goForth(Board board) {
            if (ahead == 0) {
                return false;
            }
            behind++;
            ahead--;
            place = (place + 1) % PLACES;
            states.take(place, board);
            return true;
        }
    }

    /** The SIGHTS, and the TIME at which they are TOLD and UNTOLD. */
    private static final class Sights {
        private static final int MAX_SIGHTS = 30;

        int time = 0;
        int count = 0;
        private final int[] cells = new int[MAX_SIGHTS];
        private final int[] letters = new int[MAX_SIGHTS];
        private final boolean[] are = new boolean[MAX_SIGHTS];
        private final int[] told = new int[MAX_SIGHTS];
        private final int[] untold = new int[MAX_SIGHTS];

        void clear() {
            count = 0;
        }

        int tell(int cell, int letter, boolean is) {
            if (count >= MAX_SIGHTS) {
                return NONE;
            }
            cells[count] = cell;
            letters[count] = letter;
            are[count] = is;
            told[count] = time;
            untold[count] = NONE;
            count++;
            return count - 1;
        }

        boolean takeBack(int sight) {
            if (sight < 0 || sight >= count || untold[sight] != NONE) {
                return false;
            }
            untold[sight] = time;
            return true;
        }

        int countingAt(int k) {
            int bits = 0;
            for (int i = 0; i < count; i++) {
                boolean isGone = untold[i] != NONE && untold[i] <= k;
                bits |= told[i] <= k && !isGone ? 1 << i : 0;
            }
            return bits;
        }

        boolean agree(int counting, int[] print) {
            for (int i = 0; i < count; i++) {
                if (isIn(counting, i) && (print[cells[i]] == letters[i]) != are[i]) {
                    return false;
                }
            }
            return true;
        }
    }

    /** Goes through all FILLINGS of a board, and leaves it as it was. */
    private static final class Filler {
        private final Board board;
        private final Sights sights;
        private boolean isSeeing = false;
        private int counting = 0;
        private int tried = 0;
        boolean spent = false;
        int found = 0;
        int least = 0;
        int greatest = 0;
        final int[] best = new int[MAX_SLOTS];
        private final int[] given = new int[MAX_SLOTS];
        private final int[] gains = new int[MAX_SLOTS * MAX_ACTS];
        private final int[] tally = new int[MAX_CELLS * SQUARES];

        Filler(Board trial, Sights sights) {
            board = trial;
            this.sights = sights;
        }

        /** The PARTY may be NONE: then the FILLINGS are only counted. */
        void fillAll(int party) {
            begin(false);
            board.findGains(gains, party, NONE);
            fill(0, 0, 0);
        }

        /** Finds only FILLINGS with which the SIGHTS known at k agree. */
        void fillSeen(int k) {
            begin(true);
            counting = sights.countingAt(k);
            Arrays.fill(tally, 0);
            fill(0, 0, 0);
        }

        private void begin(boolean seeing) {
            isSeeing = seeing;
            tried = 0;
            spent = false;
            found = 0;
        }

        private void fill(int slot, int used, int worth) {
            if (slot >= board.slotCount || slot >= MAX_SLOTS) {
                arrive(worth);
                return;
            }
            int own = board.acts[slot];
            if (own != NONE) {
                if (!isIn(used, own)) {
                    give(slot, own, used, worth);
                }
                return;
            }
            int open = board.actsToWrite(slot) & ~used;
            if (open != 0) {
                int fresh = board.blanksOf(slot);
                tryEach(open, slot, used, worth);
                board.takeLetters(slot, fresh);
            }
        }

        private void tryEach(int acts, int slot, int used, int worth) {
            int open = acts;
            for (int i = 0; i < MAX_ACTS && open != 0 && !spent; i++) {
                int act = Integer.numberOfTrailingZeros(open);
                open &= open - 1;
                tried++;
                spent = tried > MAX_TRIED;
                if (!spent) {
                    // All ACTS to try have as many letters: each is written over the one ahead.
                    board.putLetters(slot, act);
                    give(slot, act, used, worth);
                }
            }
        }

        private void give(int slot, int act, int used, int worth) {
            given[slot] = act;
            fill(slot + 1, used | 1 << act, worth + gains[slot * MAX_ACTS + act]);
        }

        private void arrive(int worth) {
            if (isSeeing) {
                if (sights.agree(counting, board.cells)) {
                    found++;
                    countLetters();
                }
                return;
            }
            if (found == 0 || worth > greatest) {
                greatest = worth;
                System.arraycopy(given, 0, best, 0, MAX_SLOTS);
            }
            least = found == 0 ? worth : Math.min(least, worth);
            found++;
        }

        private void countLetters() {
            for (int cell = 0; cell < board.cellCount; cell++) {
                tally[cell * SQUARES + board.cells[cell]]++;
            }
        }

        int printsWith(int cell, int letter) {
            return tally[cell * SQUARES + letter];
        }

        int mostPrintsBehind(int cell) {
            int most = 0;
            for (int letter = 1; letter <= ALPHABET; letter++) {
                most = Math.max(most, printsWith(cell, letter));
            }
            return most;
        }
    }

    /** PLAY on a board, which it leaves as it was: one PARTY writes, then another. */
    private static final class Duel {
        private final Board board;
        int move = NONE;
        int reply = NONE;
        int outcome = 0;
        private int answer = NONE;
        private final int[] gains = new int[MAX_SLOTS * MAX_ACTS];

        Duel(Board trial) {
            board = trial;
        }

        void playOut(int party, int other) {
            move = NONE;
            reply = NONE;
            outcome = 0;
            board.findGains(gains, party, other);
            for (int slot = 0; slot < board.slotCount; slot++) {
                int open = board.actsToWrite(slot);
                for (int act = 0; act < MAX_ACTS && open >>> act != 0; act++) {
                    if (isIn(open, act)) {
                        tryMove(slot, act);
                    }
                }
            }
        }

        private void tryMove(int slot, int act) {
            int fresh = board.blanksOf(slot);
            board.putLetters(slot, act);
            board.lookAtSlots();
            int behind = worstReply();
            if (move == NONE || behind > outcome) {
                move = 100 * act + slot;
                reply = answer;
                outcome = behind;
            }
            board.takeLetters(slot, fresh);
            board.lookAtSlots();
        }

        private int worstReply() {
            int before = gainsNow();
            int worst = before;
            answer = NONE;
            for (int slot = 0; slot < board.slotCount; slot++) {
                int open = board.actsToWrite(slot);
                for (int act = 0; act < MAX_ACTS && open >>> act != 0; act++) {
                    if (isIn(open, act)) {
                        int behind = before + gainOf(slot, act);
                        if (answer == NONE || behind < worst) {
                            answer = 100 * act + slot;
                            worst = behind;
                        }
                    }
                }
            }
            return worst;
        }

        private int gainsNow() {
            int sum = 0;
            for (int slot = 0; slot < board.slotCount; slot++) {
                int act = board.acts[slot];
                sum += act == NONE ? 0 : gains[slot * MAX_ACTS + act];
            }
            return sum;
        }

        /** A letter that is new can end a word in the SLOT that crosses there, too. */
        private int gainOf(int slot, int act) {
            int gain = gains[slot * MAX_ACTS + act];
            for (int i = 0; i < board.lengths[slot]; i++) {
                int cell = board.cellOf(slot, i);
                int crossing = board.crossingAt(slot, cell);
                if (board.cells[cell] == BLANK && crossing != NONE && board.blanksIn[crossing] == 1) {
                    board.cells[cell] = board.law.letterOf(act, i);
                    int ended = board.actSpelledIn(crossing);
                    board.cells[cell] = BLANK;
                    gain += ended == NONE ? 0 : gains[crossing * MAX_ACTS + ended];
                }
            }
            return gain;
        }
    }
}
