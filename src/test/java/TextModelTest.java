import java.util.ArrayList;
import java.util.List;
import java.util.Map;
import java.util.Random;

/** Texts drawn by fixed seeds, each read by GridLaws and by PlainReader: FAULT, place, and what was told. */
public final class TextModelTest {
    private static final String[] ODD = ("size by party act black if and then never force or not long vowels across "
            + "line year meets ; ( ) < > = + - * / % 0 1 9 10 0009 00010 9999 12345 ab ba aba p q a abcde abcdef "
            + "abcdefgh abcdefghi ! 1x 1234x A {").split(" ");
    private static final String[] PARTIES = {"p", "q", "red", "ab", "longname"};
    private static final String[] VARIABLES = {"long", "vowels", "across", "line", "year", "meets"};
    private static final String[] JOINING = {"or", "and", "+", "-", "*", "/", "%"};
    private static final String[] SORTS = {"size", "party", "act", "black", "if", "never", "force"};

    private final Random random;
    private final List<String> tokens = new ArrayList<>();
    private final List<String> drawn = new ArrayList<>();
    private final int units;
    private final int careless;
    private final int tooMany;
    private int parties = 0;
    private int acts = 0;
    private int blacks = 0;

    private TextModelTest(long seed) {
        random = new Random(seed);
        units = below(4) == 0 ? 160 : 16;
        careless = below(3) == 0 ? 12 : 100000;
        tooMany = below(3) == 0 ? 1 : 0;
    }

    public static void main(String[] args) {
        int texts = args.length > 1 ? Integer.parseInt(args[1]) : 8000;
        int[] seen = new int[6];
        for (int seed = 0; seed < texts && Check.isClean(); seed++) {
            TextModelTest run = new TextModelTest(seed);
            run.draw();
            seen[compare(run.text())]++;
        }
        for (int fault = 0; fault < seen.length; fault++) {
            Check.due("texts of FAULT " + fault + " are seen", true, seen[fault] >= texts / 100);
        }
        Check.finish("TextModelTest");
    }

    private static int compare(String text) {
        PlainReader plain = new PlainReader(text);
        GridLaws x = new GridLaws();
        int answer = Check.grid(x, text);
        Check.due("fault of " + text, plain.fault, x.fault(0));
        Check.due("place in " + text, plain.place, x.fault(1));
        Check.due("grid of " + text, plain.fault == 0 ? plain.acts.size() : GridLaws.NONE, answer);
        if (plain.fault == 0) {
            compareTold(plain, x, text);
        }
        return plain.fault;
    }

    private static void compareTold(PlainReader plain, GridLaws x, String text) {
        int[] counts = {plain.acts.size(), plain.parties.size(), plain.rows, plain.columns, 0, plain.black.size(),
            plain.ifs.size(), plain.nevers.size(), 0, 0, 0, 0, 0, plain.units, 0};
        for (int what = 0; what < counts.length; what++) {
            Check.due("about(" + what + ") of " + text, counts[what], x.about(what));
        }
        for (int cell = 0; cell < plain.rows * plain.columns; cell++) {
            Check.due("square(" + cell + ") of " + text, plain.black.contains(cell) ? 27 : 0, x.square(cell));
        }
        for (int act = 0; act < plain.acts.size(); act++) {
            Map<String, Integer> wanted = plain.wants.get(act);
            for (int party = 0; party < plain.parties.size(); party++) {
                int want = wanted.getOrDefault(plain.parties.get(party), 0);
                Check.due("wants(" + party + ", " + act + ") of " + text, want, x.wants(party, act));
            }
        }
    }

    private int below(int n) {
        return random.nextInt(n);
    }

    private void put(Object... more) {
        for (Object token : more) {
            tokens.add(token.toString());
        }
    }

    private boolean isCareless() {
        return below(careless) == 0;
    }

    private static String name(int i) {
        return (char) ('a' + i / 5) + "xzuvw".substring(i % 5, i % 5 + 1);
    }

    /** Mostly lines that can be, in an order that can be; some of a sort too many; at times a wrong TOKEN. */
    private void draw() {
        if (below(3) != 0) {
            put("size", isCareless() ? below(7) : 3 + below(2), "by", isCareless() ? below(7) : 3 + below(3), ";");
        }
        for (int i = below(4 + tooMany); i > 0; i--) {
            put("party", PARTIES[isCareless() ? below(parties + 1) : parties], ";");
            parties++;
        }
        for (int i = below(3) == 0 ? 16 + below(1 + tooMany) : below(9); i > 0; i--) {
            act(isCareless() ? below(acts + 1) : acts);
            acts++;
        }
        for (int i = below(2) == 0 ? 30 : below(9); i > 0 && blacks < 8 + tooMany; i--) {
            black();
        }
        for (int i = below(3) == 0 ? 16 + 16 * tooMany : below(9); i > 0; i--) {
            two(below(2) == 0 ? "if" : "never");
        }
        for (int i = below(3) == 0 ? 0 : 1; i > 0; i--) {
            put("force");
            any(0);
            put(";");
        }
        if (isCareless()) {
            put(SORTS[below(SORTS.length)]);
        }
        for (int i = below(4) == 0 ? 1 + below(2) : 0; i > 0 && !tokens.isEmpty(); i--) {
            spoil(below(tokens.size()));
        }
    }

    /** Each thing is drawn once, but by the careless. */
    private boolean isNew(String thing) {
        boolean is = !drawn.contains(thing);
        drawn.add(thing);
        return is || isCareless();
    }

    private void black() {
        int row = isCareless() ? below(6) : below(3);
        int column = isCareless() ? below(7) : below(3);
        if (isNew(row + " " + column)) {
            put("black", row, column, ";");
            blacks++;
        }
    }

    private void two(String sort) {
        int bound = Math.max(acts, 1) + (isCareless() ? 1 : 0);
        int one = below(bound);
        int other = below(bound);
        boolean can = acts > 1 && one != other && isNew(sort + Math.min(one, other) + " " + Math.max(one, other));
        if (!can && !isCareless()) {
            return;
        }
        put(sort, name(one));
        if (sort.equals("if")) {
            put("and");
        }
        put(name(other));
        if (sort.equals("if")) {
            put("then", name(below(bound)));
        }
        put(";");
    }

    private void spoil(int at) {
        switch (below(4)) {
            case 0 -> tokens.remove(at);
            case 1 -> tokens.add(at, ODD[below(ODD.length)]);
            case 2 -> tokens.set(at, ODD[below(ODD.length)]);
            default -> tokens.add(at, tokens.get(below(tokens.size())));
        }
    }

    private void act(int i) {
        put("act", name(i));
        for (int party = 0; party < parties || party <= parties && party < PARTIES.length && isCareless(); party++) {
            if (below(2) == 0) {
                put(PARTIES[isCareless() ? below(PARTIES.length) : party]);
                if (below(3) == 0) {
                    put("-");
                }
                put(isCareless() ? 10 : below(10));
            }
        }
        put(";");
    }

    private void any(int deep) {
        int more = below(units) / 4 / (1 + deep);
        one(deep);
        for (int i = 0; i < more; i++) {
            String sign = JOINING[below(JOINING.length)];
            put(sign);
            if (sign.equals("or") || sign.equals("and")) {
                one(deep);
            } else {
                unit(deep);
            }
        }
    }

    private void one(int deep) {
        if (deep < 9 && below(3) == 0) {
            put("not");
            one(deep + 1);
            return;
        }
        unit(deep);
        if (below(3) == 0) {
            put("<>=".charAt(below(3)));
            unit(deep);
        }
    }

    private void unit(int deep) {
        if (deep < 9 && below(3) == 0) {
            put("(");
            any(deep + 1);
            put(")");
        } else {
            put(below(2) == 0 ? below(100) : VARIABLES[below(VARIABLES.length)]);
        }
    }

    /** TOKENS are parted by blanks, or not where they are two without. */
    private String text() {
        StringBuilder text = new StringBuilder();
        for (String token : tokens) {
            char last = text.length() == 0 ? ';' : text.charAt(text.length() - 1);
            boolean isOpen = Character.isLetterOrDigit(last) && Character.isLetterOrDigit(token.charAt(0));
            if (isOpen || below(3) == 0) {
                text.append(below(4) == 0 ? "\n" : " ");
            }
            text.append(token);
        }
        return text.substring(0, Math.min(text.length(), 1590));
    }
}
