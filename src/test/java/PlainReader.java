import java.util.ArrayList;
import java.util.HashSet;
import java.util.LinkedHashMap;
import java.util.List;
import java.util.Map;
import java.util.Set;
import java.util.TreeSet;
import java.util.regex.Matcher;
import java.util.regex.Pattern;

/**
 * The text of a GRID once more, in another way than GridLaws reads it: the grammar as it stands tells the first
 * TOKEN that can't stand there, then all lines ahead of it are gone through for what else can't be, and of all
 * FAULTS found the first by its place counts.
 */
final class PlainReader {
    private static final Set<String> OWN = Set.of("size", "by", "party", "act", "black", "if", "and", "then", "never",
            "force", "or", "not", "long", "vowels", "across", "line", "year", "meets");

    /** A TOKEN: its sort is itself, NAME, N, END, or BAD. */
    record Token(String sort, String text, int place) {
    }

    /** From where a part of the grammar begins to all places where it can end. */
    interface Part {
        Set<Integer> endsFrom(int start);
    }

    private final List<Token> tokens = new ArrayList<>();
    private int furthest = 0;
    int fault = 0;
    int place = -1;

    int rows = 3;
    int columns = 3;
    final List<String> parties = new ArrayList<>();
    final List<String> acts = new ArrayList<>();
    final List<Map<String, Integer>> wants = new ArrayList<>();
    final Set<Integer> black = new TreeSet<>();
    final List<Set<String>> ifs = new ArrayList<>();
    final List<Set<String>> nevers = new ArrayList<>();
    private int forces = 0;
    int units = 0;

    PlainReader(String text) {
        cutUp(text);
        Part whole = row(many(line()), sort("END"));
        boolean isWhole = !whole.endsFrom(0).isEmpty();
        if (!isWhole) {
            found(tokens.get(furthest).sort().equals("BAD") ? 1 : 2, furthest);
        }
        goThroughLines();
    }

    private void found(int why, int at) {
        int where = tokens.get(at).place();
        if (fault == 0 || where < place || where == place && why < fault) {
            fault = why;
            place = where;
        }
    }

    private void cutUp(String text) {
        Matcher matcher = Pattern.compile("[a-z]+|[0-9]+|[^ \n]").matcher(text);
        while (matcher.find()) {
            String token = matcher.group();
            String sort = token;
            if (token.matches("[a-z]+")) {
                sort = token.length() > 8 ? "BAD" : OWN.contains(token) ? token : "NAME";
            } else if (token.matches("[0-9]+")) {
                sort = token.length() > 4 || matcher.end() < text.length()
                        && Character.toString(text.charAt(matcher.end())).matches("[a-z]") ? "BAD" : "N";
            } else if (!";()<>=+-*/%".contains(token)) {
                sort = "BAD";
            }
            tokens.add(new Token(sort, token, matcher.start()));
        }
        tokens.add(new Token("END", "", text.length()));
    }

    private Part sort(String... sorts) {
        return start -> {
            furthest = Math.max(furthest, start);
            boolean is = start < tokens.size() && List.of(sorts).contains(tokens.get(start).sort());
            return is ? Set.of(start + 1) : Set.of();
        };
    }

    private static Part row(Part... parts) {
        return start -> {
            Set<Integer> ends = Set.of(start);
            for (Part part : parts) {
                ends = fromEach(part, ends);
            }
            return ends;
        };
    }

    private static Set<Integer> fromEach(Part part, Set<Integer> starts) {
        Set<Integer> ends = new HashSet<>();
        starts.forEach(s -> ends.addAll(part.endsFrom(s)));
        return ends;
    }

    private static Part either(Part... parts) {
        return start -> {
            Set<Integer> ends = new HashSet<>();
            for (Part part : parts) {
                ends.addAll(part.endsFrom(start));
            }
            return ends;
        };
    }

    private static Part many(Part part) {
        return start -> {
            Set<Integer> ends = new HashSet<>();
            Set<Integer> fresh = Set.of(start);
            while (!fresh.isEmpty()) {
                ends.addAll(fresh);
                Set<Integer> next = fromEach(part, fresh);
                next.removeAll(ends);
                fresh = next;
            }
            return ends;
        };
    }

    private static Part maybe(Part part) {
        return either(row(), part);
    }

    private Part line() {
        Part name = sort("NAME");
        Part n = sort("N");
        Part v = row(maybe(sort("-")), n);
        return row(either(row(sort("size"), n, sort("by"), n), row(sort("party"), name),
                row(sort("act"), name, many(row(name, v))), row(sort("black"), n, n),
                row(sort("if"), name, sort("and"), name, sort("then"), name), row(sort("never"), name, name),
                row(sort("force"), this::e)), sort(";"));
    }

    private Set<Integer> e(int start) {
        Part both = row(this::one, many(row(sort("and"), this::one)));
        return row(both, many(row(sort("or"), both))).endsFrom(start);
    }

    private Set<Integer> one(int start) {
        Part unit = either(sort("N", "long", "vowels", "across", "line", "year", "meets"),
                row(sort("("), this::e, sort(")")));
        Part term = row(unit, many(row(sort("*", "/", "%"), unit)));
        Part sum = row(term, many(row(sort("+", "-"), term)));
        return either(row(sort("not"), this::one), row(sum, maybe(row(sort("<", ">", "="), sum)))).endsFrom(start);
    }

    private void goThroughLines() {
        int start = 0;
        int lines = 0;
        while (start < furthest) {
            int end = start;
            while (end < furthest && !tokens.get(end).text().equals(";")) {
                end++;
            }
            goThrough(start, end, lines);
            start = end + 1;
            lines++;
        }
    }

    private void refuse(boolean is, int at) {
        if (is) {
            found(2, at);
        }
    }

    private void goThrough(int start, int end, int lines) {
        switch (tokens.get(start).text()) {
            case "size" -> {
                refuse(lines > 0, start);
                rows = number(start + 1, end, 2, 4);
                columns = number(start + 3, end, 2, 5);
            }
            case "party" -> {
                refuse(parties.size() >= 3, start);
                add(parties, start + 1, end);
            }
            case "act" -> {
                refuse(acts.size() >= 16, start);
                act(start, end);
            }
            case "black" -> {
                refuse(black.size() >= 8, start);
                int row = number(start + 1, end, 0, rows - 1);
                int column = number(start + 2, end, 0, columns - 1);
                if (row >= 0 && column >= 0 && !black.add(row * columns + column)) {
                    found(3, start + 2);
                }
            }
            case "if" -> {
                refuse(ifs.size() >= 8, start);
                two(ifs, start + 1, start + 3, end);
                known(acts, start + 5, end);
            }
            case "never" -> {
                refuse(nevers.size() >= 8, start);
                two(nevers, start + 1, start + 2, end);
            }
            default -> {
                refuse(forces > 0, start);
                forces++;
                units(start + 1, end);
            }
        }
    }

    /** The number, or -1 if it is not there, or can't be. */
    private int number(int at, int end, int least, int most) {
        int number = at < end ? Integer.parseInt(tokens.get(at).text()) : -1;
        if (at < end && (number < least || number > most)) {
            found(4, at);
            return -1;
        }
        return number;
    }

    private void add(List<String> names, int at, int end) {
        if (at < end) {
            if (names.contains(tokens.get(at).text())) {
                found(3, at);
            }
            names.add(tokens.get(at).text());
        }
    }

    private boolean known(List<String> names, int at, int end) {
        boolean is = at < end && names.contains(tokens.get(at).text());
        if (at < end && !is) {
            found(5, at);
        }
        return is;
    }

    private void act(int start, int end) {
        int letters = start + 1 < end ? tokens.get(start + 1).text().length() : 2;
        if (letters < 2 || letters > 5) {
            found(4, start + 1);
        }
        add(acts, start + 1, end);
        Map<String, Integer> wanted = new LinkedHashMap<>();
        int at = start + 2;
        while (at < end) {
            String party = tokens.get(at).text();
            known(parties, at, end);
            if (wanted.containsKey(party)) {
                found(3, at);
            }
            boolean below = at + 1 < end && tokens.get(at + 1).text().equals("-");
            int n = below ? at + 2 : at + 1;
            int want = n < end ? Integer.parseInt(tokens.get(n).text()) : 0;
            if (want > 9) {
                found(4, at + 1);
            }
            wanted.put(party, below ? -want : want);
            at = n + 1;
        }
        wants.add(wanted);
    }

    private void two(List<Set<String>> told, int first, int second, int end) {
        boolean isFirst = known(acts, first, end);
        boolean isSecond = known(acts, second, end);
        if (isFirst && isSecond) {
            Set<String> both = new HashSet<>(List.of(tokens.get(first).text(), tokens.get(second).text()));
            if (both.size() < 2 || told.contains(both)) {
                found(3, second);
            }
            told.add(both);
        }
    }

    /** How many ( e ) and nots are open: a not ends with its one, ahead of the next and, or, ). */
    private void units(int start, int end) {
        List<Integer> nots = new ArrayList<>(List.of(0));
        for (int at = start; at < end; at++) {
            String text = tokens.get(at).text();
            int last = nots.size() - 1;
            int within = last + nots.stream().mapToInt(i -> i).sum();
            if (text.equals("not")) {
                refuse(within > 6, at);
                nots.set(last, nots.get(last) + 1);
            } else if (text.equals("and") || text.equals("or")) {
                nots.set(last, 0);
            } else if (text.equals(")")) {
                nots.remove(last);
            } else if (text.equals("(") || text.matches("[a-z]+|[0-9]+")) {
                refuse(units >= 30, at);
                units++;
                if (text.equals("(")) {
                    refuse(within > 6, at);
                    nots.add(0);
                }
            }
        }
    }
}
