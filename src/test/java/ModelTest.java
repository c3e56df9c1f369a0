import java.util.ArrayList;
import java.util.List;
import java.util.Random;

/** Runs of calls drawn by fixed seeds, each answered by GridLaws and by PlainModel. */
public final class ModelTest {
    private static final String[] NAMES = {"red", "blue", "p", "longname"};
    private static final String[] VARIABLES = {"long", "vowels", "across", "line", "year", "meets"};

    private final Random random;
    private final StringBuilder text = new StringBuilder();
    private PlainModel.Spec spec = new PlainModel.Spec();
    private final GridLaws x = new GridLaws();
    private PlainModel model = new PlainModel(spec, 0);
    private String last = "";

    private ModelTest(long seed) {
        random = new Random(seed);
    }

    public static void main(String[] args) {
        int runs = args.length > 1 ? Integer.parseInt(args[1]) : 400;
        for (int seed = 0; seed < runs && Check.isClean(); seed++) {
            ModelTest run = new ModelTest(seed);
            run.tell();
            run.call(seed);
            if (!Check.isClean()) {
                System.out.println("seed " + seed + ", text: " + run.text);
            }
        }
        Check.finish("ModelTest");
    }

    private int below(int n) {
        return random.nextInt(n);
    }

    private void put(Object... tokens) {
        for (Object token : tokens) {
            text.append(token).append(below(8) == 0 ? "\n " : " ");
        }
    }

    private void tell() {
        text.setLength(0);
        spec = new PlainModel.Spec();
        if (below(6) != 0) {
            spec.rows = 2 + below(3);
            spec.columns = 2 + below(4);
            put("size", spec.rows, "by", spec.columns, ";");
        }
        int parties = below(4);
        for (int i = 0; i < parties; i++) {
            spec.parties.add(NAMES[i]);
            put("party", NAMES[i], ";");
        }
        tellBlack();
        tellActs();
        tellRules();
        if (below(4) != 0) {
            put("force");
            spec.force = any(0);
            put(";");
        }
        if (below(3) == 0) {
            // A FAULT at the very end leaves all as it was.
            Check.due("grid() of a fault", GridLaws.NONE, Check.grid(x, text + "!"));
            Check.due("its place", text.length(), x.fault(1));
            x.end(0);
            look();
        }
        model = new PlainModel(spec, model.about(11));
        Check.due("grid()", spec.acts.size(), Check.grid(x, text.toString()));
    }

    private void tellBlack() {
        int count = below(3) == 0 ? below(9) : below(3);
        for (int i = 0; i < count; i++) {
            int cell = below(spec.rows * spec.columns);
            if (spec.black.add(cell)) {
                put("black", cell / spec.columns, cell % spec.columns, ";");
            }
        }
    }

    private void tellActs() {
        int letters = 1 + below(3);
        List<String> words = new ArrayList<>();
        // What crosses in one full grid, so that there are FILLINGS.
        if (below(4) != 0) {
            StringBuilder full = new StringBuilder();
            for (int i = 0; i < spec.rows * spec.columns; i++) {
                full.append(spec.black.contains(i) ? '#' : letter(letters));
            }
            for (int row = 0; row < spec.rows; row++) {
                words.addAll(List.of(full.substring(row * spec.columns, (row + 1) * spec.columns).split("#")));
            }
            for (int column = 0; column < spec.columns; column++) {
                StringBuilder down = new StringBuilder();
                for (int row = 0; row < spec.rows; row++) {
                    down.append(full.charAt(row * spec.columns + column));
                }
                words.addAll(List.of(down.toString().split("#")));
            }
        }
        int more = below(10);
        for (int i = 0; i < more; i++) {
            StringBuilder word = new StringBuilder();
            int length = below(2) == 0 ? spec.columns : below(2) == 0 ? spec.rows : 2 + below(4);
            for (int j = 0; j < length; j++) {
                word.append(letter(letters));
            }
            words.add(word.toString());
        }
        java.util.Collections.shuffle(words, random);
        for (String word : words) {
            if (word.length() >= 2 && !spec.acts.contains(word) && spec.acts.size() < 16
                    && !List.of("by", "if", "or").contains(word)) {
                tellAct(word);
            }
        }
    }

    private char letter(int letters) {
        return "aebz".charAt(below(letters + 1));
    }

    private void tellAct(String word) {
        int[] wants = new int[spec.parties.size()];
        put("act", word);
        for (int party = wants.length - 1; party >= 0; party--) {
            if (below(4) != 0) {
                wants[party] = below(19) - 9;
                put(spec.parties.get(party), wants[party]);
            }
        }
        put(";");
        spec.acts.add(word);
        spec.wants.add(wants);
    }

    private void tellRules() {
        for (int i = 0; i < 12 && spec.acts.size() >= 2; i++) {
            int a = below(spec.acts.size());
            int b = below(spec.acts.size());
            int c = below(spec.acts.size());
            List<int[]> sort = below(2) == 0 ? spec.ifs : spec.nevers;
            boolean told = sort.stream().anyMatch(r -> r[0] == a && r[1] == b || r[0] == b && r[1] == a);
            if (a == b || told || sort.size() >= 8) {
                continue;
            }
            if (sort == spec.ifs) {
                put("if", spec.acts.get(a), "and", spec.acts.get(b), "then", spec.acts.get(c), ";");
            } else {
                put("never", spec.acts.get(a), spec.acts.get(b), ";");
            }
            sort.add(new int[] {a, b, c});
        }
    }

    private PlainModel.Expression any(int within) {
        PlainModel.Expression e = both(within);
        while (spec.units < 12 && below(8) == 0) {
            put("or");
            PlainModel.Expression a = e;
            PlainModel.Expression b = both(within);
            e = v -> a.of(v) != 0 | b.of(v) != 0 ? 1 : 0;
        }
        return e;
    }

    private PlainModel.Expression both(int within) {
        PlainModel.Expression e = one(within);
        while (spec.units < 12 && below(8) == 0) {
            put("and");
            PlainModel.Expression a = e;
            PlainModel.Expression b = one(within);
            e = v -> a.of(v) != 0 & b.of(v) != 0 ? 1 : 0;
        }
        return e;
    }

    private PlainModel.Expression one(int within) {
        if (within < 7 && below(6) == 0) {
            put("not");
            PlainModel.Expression a = one(within + 1);
            return v -> a.of(v) == 0 ? 1 : 0;
        }
        PlainModel.Expression a = sum(within);
        if (spec.units >= 12 || below(4) != 0) {
            return a;
        }
        int which = below(3);
        put("<>=".charAt(which));
        PlainModel.Expression b = sum(within);
        return v -> which == 0 ? (a.of(v) < b.of(v) ? 1 : 0)
                : which == 1 ? (a.of(v) > b.of(v) ? 1 : 0) : a.of(v) == b.of(v) ? 1 : 0;
    }

    private PlainModel.Expression sum(int within) {
        PlainModel.Expression e = term(within);
        while (spec.units < 12 && below(3) == 0) {
            boolean plus = below(2) == 0;
            put(plus ? "+" : "-");
            PlainModel.Expression a = e;
            PlainModel.Expression b = term(within);
            e = v -> plus ? a.of(v) + b.of(v) : a.of(v) - b.of(v);
        }
        return e;
    }

    private PlainModel.Expression term(int within) {
        PlainModel.Expression e = unit(within);
        while (spec.units < 12 && below(3) == 0) {
            int which = below(3);
            put("*/%".charAt(which));
            PlainModel.Expression a = e;
            PlainModel.Expression b = unit(within);
            e = v -> which == 0 ? a.of(v) * b.of(v)
                    : b.of(v) == 0 ? 0 : which == 1 ? a.of(v) / b.of(v) : a.of(v) % b.of(v);
        }
        return e;
    }

    private PlainModel.Expression unit(int within) {
        spec.units++;
        if (spec.units < 12 && within < 7 && below(5) == 0) {
            put("(");
            PlainModel.Expression e = any(within + 1);
            put(")");
            return e;
        }
        if (below(3) == 0) {
            int n = below(6) == 0 ? below(10000) : below(6);
            put(n);
            return v -> n;
        }
        int variable = below(6);
        put(VARIABLES[variable]);
        return v -> v[variable];
    }

    private void due(String call, long want, long got) {
        Check.due(last + call, want, got);
    }

    private void call(int seed) {
        for (int i = 0; i < 120 && Check.isClean(); i++) {
            last = "seed " + seed + " call " + i + ": ";
            change();
            look();
            if (i % 3 == 0) {
                search();
            }
            if (i % 40 == 39) {
                tell();
                look();
            }
        }
    }

    private int cell() {
        return below(12) == 0 ? below(30) - 5 : below(spec.rows * spec.columns);
    }

    private int act() {
        return below(12) == 0 ? below(30) - 5 : below(Math.max(1, spec.acts.size()));
    }

    private int slot() {
        return below(12) == 0 ? below(30) - 5 : below(Math.max(1, model.slots()));
    }

    private int party() {
        return below(12) == 0 ? below(8) - 2 : below(Math.max(1, spec.parties.size()));
    }

    private void change() {
        int a = act();
        int c = cell();
        int s = slot();
        int b = below(5) - 1;
        switch (below(22)) {
            case 0, 1, 2, 3, 4 -> due("write " + a + " " + s, model.write(a, s), x.write(a, s));
            case 5, 6 -> due("strike " + c, model.strike(c), x.strike(c));
            case 7 -> {
                // Black cells come seldom, or soon no SLOT would be left.
                int cell = below(6) == 0 ? c : -1;
                due("blacken " + cell, model.blacken(cell), x.blacken(cell));
            }
            case 8, 9, 10 -> due("sitting", model.sitting(), x.sitting());
            case 11, 12, 13 -> Check.due(last + "undo", model.undo(), x.undo());
            case 14, 15 -> Check.due(last + "redo", model.redo(), x.redo());
            case 16 -> due("image " + b, model.image(b), x.image(b));
            case 17 -> due("back " + b, model.back(b), x.back(b));
            case 18 -> {
                boolean is = below(3) != 0;
                int letter = below(9) == 0 ? below(40) - 5 : letter(3) - 'a' + 1;
                due("sight " + c + " " + letter + " " + is, model.sight(c, letter, is), x.sight(c, letter, is));
            }
            case 19 -> Check.due(last + "untell " + b, model.untell(b), x.untell(b));
            case 20 -> {
                int by = below(5) == 0 ? below(3000) - 500 : below(3);
                due("later " + by, model.later(by), x.later(by));
            }
            default -> {
                for (int i = 0; i < 3; i++) {
                    due("write on", model.write(i, s), x.write(i, s));
                }
            }
        }
    }

    private void look() {
        int a = act();
        int c = cell();
        int s = slot();
        int p = party();
        due("square " + c, model.square(c), x.square(c));
        due("slots", model.slots(), x.slots());
        for (int what = -1; what < 8; what++) {
            due("slot " + s + " " + what, model.slot(s, what), x.slot(s, what));
        }
        due("fits " + s, model.fits(s), x.fits(s));
        due("places " + a, model.places(a), x.places(a));
        due("wants " + p + " " + a, model.wants(p, a), x.wants(p, a));
        due("force", model.force(), x.force());
        due("follows", model.follows(), x.follows());
        due("against", model.against(), x.against());
        due("worth " + p, model.worth(p), x.worth(p));
        due("blanks", model.blanks(), x.blanks());
        due("capital", model.capital(), x.capital());
        due("nonsense", model.nonsense(), x.nonsense());
        for (int what = 0; what < 3; what++) {
            due("reform " + a + " " + what, model.reform(a, what), x.reform(a, what));
        }
        int what = below(17) - 1;
        due("about " + what, model.about(what), x.about(what));
        due("lies", model.lies(s), x.lies(s));
    }

    private void search() {
        int p = party();
        int other = party();
        int k = below(6) == 0 ? -1 : below(model.about(11) + 2);
        int c = cell();
        int n = below(6) == 0 ? below(90) - 10 : below(9);
        due("fillings", model.fillings(), x.fillings());
        due("best " + p, model.best(p), x.best(p));
        for (int i = -1; i <= model.about(14); i++) {
            due("lies " + i, model.lies(i), x.lies(i));
        }
        for (int what = -1; what < 3; what++) {
            due("span " + p + " " + what, model.span(p, what), x.span(p, what));
        }
        int asked = below(5) - 1;
        due("play " + p + " " + other + " " + asked, model.play(p, other, asked), x.play(p, other, asked));
        due("will " + p + " " + n, model.will(p, n), x.will(p, n));
        due("prints " + k, model.prints(k), x.prints(k));
        due("sure " + c + " " + k, model.sure(c, k), x.sure(c, k));
        due("ask " + k, model.ask(asked, k), x.ask(asked, k));
    }
}
