import java.util.ArrayList;
import java.util.LinkedHashMap;
import java.util.LinkedHashSet;
import java.util.List;
import java.util.Map;
import java.util.Set;
import java.util.function.IntUnaryOperator;

/** The document once more, written for plainness alone: what GridLaws is held against. */
final class PlainModel {
    /** A GRID as told. The force answers by {long, vowels, across, line, year, meets}. */
    static final class Spec {
        int rows = 3;
        int columns = 3;
        final List<String> parties = new ArrayList<>();
        final List<String> acts = new ArrayList<>();
        final List<int[]> wants = new ArrayList<>();
        final Set<Integer> black = new LinkedHashSet<>();
        final List<int[]> ifs = new ArrayList<>();
        final List<int[]> nevers = new ArrayList<>();
        Expression force = null;
        int units = 0;
    }

    interface Expression {
        int of(int[] variables);
    }

    /** A SLOT: its cells, and whether it is across. */
    record Slot(List<Integer> cells, boolean across) {
    }

    record Moment(String cells, int year) {
    }

    record Sight(int cell, char letter, boolean is, int told) {
    }

    private final Spec spec;
    private String cells;
    private int year = 0;
    private final List<Moment> behind = new ArrayList<>();
    private final List<Moment> ahead = new ArrayList<>();
    private final Map<Integer, Moment> boxes = new LinkedHashMap<>();
    private final List<Sight> sights = new ArrayList<>();
    private final Map<Integer, Integer> untold = new LinkedHashMap<>();
    private int time;
    private List<Integer> lying = new ArrayList<>();
    private final Map<String, List<Slot>> slotsByShape = new LinkedHashMap<>();

    PlainModel(Spec spec, int time) {
        this.spec = spec;
        this.time = time;
        StringBuilder all = new StringBuilder();
        for (int i = 0; i < spec.rows * spec.columns; i++) {
            all.append(spec.black.contains(i) ? '#' : '.');
        }
        cells = all.toString();
    }

    private List<Slot> slotsOf(String cells) {
        char[] shape = cells.toCharArray();
        for (int i = 0; i < shape.length; i++) {
            shape[i] = shape[i] == '#' ? '#' : '.';
        }
        return slotsByShape.computeIfAbsent(new String(shape), this::findSlots);
    }

    private List<Slot> findSlots(String cells) {
        List<Slot> all = new ArrayList<>();
        for (int way = 0; way < 2; way++) {
            List<Slot> found = new ArrayList<>();
            int lines = way == 0 ? spec.rows : spec.columns;
            int along = way == 0 ? spec.columns : spec.rows;
            for (int line = 0; line < lines; line++) {
                List<Integer> run = new ArrayList<>();
                for (int i = 0; i <= along; i++) {
                    int cell = way == 0 ? line * spec.columns + i : i * spec.columns + line;
                    if (i < along && cells.charAt(cell) != '#') {
                        run.add(cell);
                    } else {
                        if (run.size() >= 2) {
                            found.add(new Slot(run, way == 0));
                        }
                        run = new ArrayList<>();
                    }
                }
            }
            found.sort((a, b) -> a.cells().get(0) - b.cells().get(0));
            all.addAll(found);
        }
        return all;
    }

    private static String textOf(Slot slot, String cells) {
        StringBuilder text = new StringBuilder();
        for (int cell : slot.cells()) {
            text.append(cells.charAt(cell));
        }
        return text.toString();
    }

    private boolean doesFit(int act, Slot slot, String cells) {
        String word = spec.acts.get(act);
        boolean fits = word.length() == slot.cells().size();
        for (int i = 0; fits && i < word.length(); i++) {
            char here = cells.charAt(slot.cells().get(i));
            fits = here == '.' || here == word.charAt(i);
        }
        return fits;
    }

    private int actIn(Slot slot, String cells) {
        return spec.acts.indexOf(textOf(slot, cells));
    }

    private Set<Integer> inForce(String cells) {
        Set<Integer> all = new LinkedHashSet<>();
        for (Slot slot : slotsOf(cells)) {
            if (actIn(slot, cells) >= 0) {
                all.add(actIn(slot, cells));
            }
        }
        return all;
    }

    private static String written(String word, Slot slot, String cells) {
        StringBuilder text = new StringBuilder(cells);
        for (int i = 0; i < word.length(); i++) {
            text.setCharAt(slot.cells().get(i), word.charAt(i));
        }
        return text.toString();
    }

    private static int bits(Set<Integer> all) {
        return all.stream().mapToInt(i -> 1 << i).sum();
    }

    private static int bits(int count, IntUnaryOperator is) {
        int bits = 0;
        for (int i = 0; i < count; i++) {
            bits |= is.applyAsInt(i) << i;
        }
        return bits;
    }

    private int meetsOf(Slot slot, String cells) {
        int meets = 0;
        for (int cell : slot.cells()) {
            meets += slotsOf(cells).stream()
                    .anyMatch(o -> o.across() != slot.across() && o.cells().contains(cell)) ? 1 : 0;
        }
        return meets;
    }

    private int forceOf(Slot slot, String cells, int year) {
        int act = actIn(slot, cells);
        if (act < 0) {
            return 0;
        }
        if (spec.force == null) {
            return 1;
        }
        String word = spec.acts.get(act);
        int first = slot.cells().get(0);
        int[] variables = {word.length(), word.replaceAll("[^aeiou]", "").length(), slot.across() ? 1 : 0,
            slot.across() ? first / spec.columns : first % spec.columns, year, meetsOf(slot, cells)};
        return Math.max(0, Math.min(99, spec.force.of(variables)));
    }

    private int worthOf(int party, String cells, int year) {
        int worth = 0;
        for (Slot slot : slotsOf(cells)) {
            int act = actIn(slot, cells);
            if (act >= 0) {
                worth += forceOf(slot, cells, year) * spec.wants.get(act)[party];
            }
        }
        return worth;
    }

    private boolean isParty(int party) {
        return party >= 0 && party < spec.parties.size();
    }

    private boolean isAct(int act) {
        return act >= 0 && act < spec.acts.size();
    }

    private boolean isCell(int cell) {
        return cell >= 0 && cell < cells.length();
    }

    private boolean isSlot(int slot) {
        return slot >= 0 && slot < slotsOf(cells).size();
    }

    private void done(String newCells, int newYear) {
        behind.add(new Moment(cells, year));
        if (behind.size() > 40) {
            behind.remove(0);
        }
        ahead.clear();
        cells = newCells;
        year = newYear;
    }

    int square(int cell) {
        if (!isCell(cell)) {
            return -1;
        }
        return ".abcdefghijklmnopqrstuvwxyz#".indexOf(cells.charAt(cell));
    }

    int slots() {
        return slotsOf(cells).size();
    }

    int slot(int number, int what) {
        if (!isSlot(number)) {
            return -1;
        }
        Slot slot = slotsOf(cells).get(number);
        return switch (what) {
            case 0 -> slot.cells().get(0);
            case 1 -> slot.cells().size();
            case 2 -> slot.across() ? 1 : 0;
            case 3 -> actIn(slot, cells);
            case 4 -> forceOf(slot, cells, year);
            case 5 -> meetsOf(slot, cells);
            case 6 -> textOf(slot, cells).replaceAll("[^.]", "").length();
            default -> -1;
        };
    }

    int fits(int slot) {
        return isSlot(slot)
                ? bits(spec.acts.size(), a -> doesFit(a, slotsOf(cells).get(slot), cells) ? 1 : 0) : -1;
    }

    int places(int act) {
        return isAct(act) ? bits(slots(), s -> doesFit(act, slotsOf(cells).get(s), cells) ? 1 : 0) : -1;
    }

    int wants(int party, int act) {
        return isParty(party) && isAct(act) ? spec.wants.get(act)[party] : -1000000;
    }

    int write(int act, int slot) {
        if (!isAct(act) || !isSlot(slot) || inForce(cells).contains(act)
                || !doesFit(act, slotsOf(cells).get(slot), cells)) {
            return -1;
        }
        int fresh = slot(slot, 6);
        done(written(spec.acts.get(act), slotsOf(cells).get(slot), cells), year);
        return fresh;
    }

    int strike(int cell) {
        int letter = square(cell);
        if (letter < 1 || letter > 26) {
            return -1;
        }
        done(cells.substring(0, cell) + "." + cells.substring(cell + 1), year);
        return letter;
    }

    private int blackCount() {
        return cells.replaceAll("[^#]", "").length();
    }

    int blacken(int cell) {
        if (!isCell(cell) || square(cell) == 27 || blackCount() >= 8) {
            return -1;
        }
        done(cells.substring(0, cell) + "#" + cells.substring(cell + 1), year);
        return blackCount();
    }

    /** Answers {act, slot}, or null: what the PARTY of the year writes. */
    private int[] choice(String cells, int year) {
        if (spec.parties.isEmpty()) {
            return null;
        }
        int party = year % spec.parties.size();
        for (int want = 9; want > 0; want--) {
            for (int act = 0; act < spec.acts.size(); act++) {
                if (spec.wants.get(act)[party] != want || inForce(cells).contains(act)) {
                    continue;
                }
                List<Slot> all = slotsOf(cells);
                for (int s = 0; s < all.size(); s++) {
                    if (doesFit(act, all.get(s), cells)) {
                        return new int[] {act, s};
                    }
                }
            }
        }
        return null;
    }

    private String satOnce(String cells, int year) {
        int[] chosen = choice(cells, year);
        return chosen == null ? cells : written(spec.acts.get(chosen[0]), slotsOf(cells).get(chosen[1]), cells);
    }

    int sitting() {
        int[] chosen = choice(cells, year);
        done(satOnce(cells, year), year + 1);
        return chosen == null ? -1 : 100 * chosen[0] + chosen[1];
    }

    boolean undo() {
        return step(behind, ahead);
    }

    boolean redo() {
        return step(ahead, behind);
    }

    private boolean step(List<Moment> from, List<Moment> to) {
        if (from.isEmpty()) {
            return false;
        }
        to.add(new Moment(cells, year));
        Moment moment = from.remove(from.size() - 1);
        cells = moment.cells();
        year = moment.year();
        return true;
    }

    int force() {
        return bits(inForce(cells));
    }

    private boolean doCross(int one, int two) {
        for (Slot a : slotsOf(cells)) {
            for (Slot b : slotsOf(cells)) {
                if (a != b && actIn(a, cells) == one && actIn(b, cells) == two
                        && a.cells().stream().anyMatch(b.cells()::contains)) {
                    return true;
                }
            }
        }
        return false;
    }

    private Set<Integer> following() {
        Set<Integer> in = inForce(cells);
        Set<Integer> all = new LinkedHashSet<>(in);
        boolean more = true;
        while (more) {
            more = false;
            for (int[] rule : spec.ifs) {
                boolean both = all.contains(rule[0]) && all.contains(rule[1]);
                boolean held = in.contains(rule[0]) && in.contains(rule[1]);
                if (both && (!held || doCross(rule[0], rule[1]))) {
                    more |= all.add(rule[2]);
                }
            }
        }
        return all;
    }

    int follows() {
        return bits(following());
    }

    int against() {
        return (int) spec.nevers.stream()
                .filter(n -> following().contains(n[0]) && following().contains(n[1])).count();
    }

    int worth(int party) {
        return isParty(party) ? worthOf(party, cells, year) : -1000000;
    }

    private Set<Integer> slotCells() {
        Set<Integer> all = new java.util.TreeSet<>();
        slotsOf(cells).forEach(s -> all.addAll(s.cells()));
        return all;
    }

    int blanks() {
        return (int) slotCells().stream().filter(c -> cells.charAt(c) == '.').count();
    }

    int capital() {
        int longest = 0;
        for (Slot a : slotsOf(cells)) {
            if (a.across() && actIn(a, cells) >= 0) {
                longest = Math.max(longest, a.cells().size());
            }
        }
        int best = -1;
        int bestDown = 0;
        for (Slot a : slotsOf(cells)) {
            for (Slot d : slotsOf(cells)) {
                if (!a.across() || d.across() || actIn(a, cells) < 0 || actIn(d, cells) < 0
                        || a.cells().size() < longest) {
                    continue;
                }
                for (int cell : a.cells()) {
                    int down = d.cells().size();
                    if (d.cells().contains(cell) && (down > bestDown || down == bestDown && cell < best)) {
                        best = cell;
                        bestDown = down;
                    }
                }
            }
        }
        return best;
    }

    int nonsense() {
        return bits(slots(), s -> slot(s, 6) == 0 && slot(s, 3) < 0 ? 1 : 0);
    }

    /** All FILLINGS as grids, or null if SPENT. */
    private List<String> fillingsOf(String start) {
        List<String> found = new ArrayList<>();
        int[] tried = {0};
        List<Integer> now = new ArrayList<>();
        slotsOf(start).forEach(s -> now.add(actIn(s, start)));
        go(now, start, new ArrayList<>(), found, tried);
        return tried[0] > 20000 ? null : found;
    }

    private void go(List<Integer> now, String then, List<Integer> given, List<String> found, int[] tried) {
        List<Slot> all = slotsOf(then);
        if (given.size() == all.size()) {
            found.add(then);
            return;
        }
        Slot slot = all.get(given.size());
        int own = now.get(given.size());
        for (int act = 0; act < spec.acts.size() && tried[0] <= 20000; act++) {
            boolean isFree = !given.contains(act);
            boolean takes = own >= 0 ? own == act && isFree
                    : isFree && !now.contains(act) && doesFit(act, slot, then);
            if (takes) {
                tried[0] += own >= 0 ? 0 : 1;
                given.add(act);
                go(now, written(spec.acts.get(act), slot, then), given, found, tried);
                given.remove(given.size() - 1);
            }
        }
    }

    int fillings() {
        List<String> all = fillingsOf(cells);
        return all == null ? -2 : all.size();
    }

    int best(int party) {
        lying = new ArrayList<>();
        List<String> all = isParty(party) ? fillingsOf(cells) : null;
        if (all == null || all.isEmpty()) {
            return -1000000;
        }
        int most = all.stream().mapToInt(f -> worthOf(party, f, year)).max().orElseThrow();
        String best = all.stream().filter(f -> worthOf(party, f, year) == most).findFirst().orElseThrow();
        slotsOf(cells).forEach(s -> lying.add(actIn(s, best)));
        return most;
    }

    int span(int party, int what) {
        List<String> all = isParty(party) && (what == 0 || what == 1) ? fillingsOf(cells) : null;
        if (all == null || all.isEmpty()) {
            return -1000000;
        }
        var worths = all.stream().mapToInt(f -> worthOf(party, f, year));
        return what == 0 ? worths.min().orElseThrow() : worths.max().orElseThrow();
    }

    int reform(int act, int what) {
        if (!isAct(act) || what != 0 && what != 1) {
            return -1;
        }
        int best = -1;
        int fewest = 99;
        for (int s = 0; s < slots(); s++) {
            String text = textOf(slotsOf(cells).get(s), cells);
            String word = spec.acts.get(act);
            if (text.length() != word.length()) {
                continue;
            }
            int others = text.equals(word) ? -1 : 0;
            for (int i = 0; i < word.length(); i++) {
                others += text.charAt(i) != '.' && text.charAt(i) != word.charAt(i) ? 1 : 0;
            }
            if (others < fewest) {
                fewest = others;
                best = s;
            }
        }
        return best < 0 ? -1 : what == 0 ? Math.max(0, fewest) : best;
    }

    /** All that can be written: {slot, act}, by SLOTS, then by ACTS. */
    private List<int[]> movesOn(String cells) {
        List<int[]> all = new ArrayList<>();
        Set<Integer> in = inForce(cells);
        List<Slot> slots = slotsOf(cells);
        for (int s = 0; s < slots.size(); s++) {
            for (int act = 0; act < spec.acts.size(); act++) {
                if (!in.contains(act) && doesFit(act, slots.get(s), cells)) {
                    all.add(new int[] {s, act});
                }
            }
        }
        return all;
    }

    private String moved(int[] move, String cells) {
        return written(spec.acts.get(move[1]), slotsOf(cells).get(move[0]), cells);
    }

    int play(int party, int other, int what) {
        if (!isParty(party) || !isParty(other) || party == other || what < 0 || what > 2) {
            return -1000000;
        }
        int[] answer = null;
        for (int[] move : movesOn(cells)) {
            String then = moved(move, cells);
            int value = worthOf(party, then, year) - worthOf(other, then, year);
            int reply = -1;
            for (int[] second : movesOn(then)) {
                String last = moved(second, then);
                int now = worthOf(party, last, year) - worthOf(other, last, year);
                if (reply < 0 || now < value) {
                    value = now;
                    reply = 100 * second[1] + second[0];
                }
            }
            if (answer == null || value > answer[0]) {
                answer = new int[] {value, 100 * move[1] + move[0], reply};
            }
        }
        return answer == null ? -1000000 : answer[what];
    }

    int will(int party, int n) {
        if (!isParty(party) || n < 0 || n > 60) {
            return -1000000;
        }
        String then = cells;
        for (int i = 0; i < n; i++) {
            then = satOnce(then, year + i);
        }
        return worthOf(party, then, year + n);
    }

    int lies(int i) {
        return i >= 0 && i < lying.size() ? lying.get(i) : -1;
    }

    int sight(int cell, int letter, boolean is) {
        if (!isCell(cell) || letter < 1 || letter > 26 || sights.size() >= 30) {
            return -1;
        }
        sights.add(new Sight(cell, (char) ('a' + letter - 1), is, time));
        return sights.size() - 1;
    }

    boolean untell(int sight) {
        if (sight < 0 || sight >= sights.size() || untold.containsKey(sight)) {
            return false;
        }
        untold.put(sight, time);
        return true;
    }

    int later(int by) {
        if (by < 0 || by > 1000 || time + by > 100000) {
            return -1;
        }
        time += by;
        return time;
    }

    private List<String> printsAt(int k) {
        List<String> all = fillingsOf(cells.replaceAll("[a-z]", "."));
        if (all == null) {
            return null;
        }
        List<String> left = new ArrayList<>();
        for (String print : all) {
            boolean good = true;
            for (int i = 0; i < sights.size(); i++) {
                Sight s = sights.get(i);
                boolean counts = s.told() <= k && !(untold.containsKey(i) && untold.get(i) <= k);
                good &= !counts || (print.charAt(s.cell()) == s.letter()) == s.is();
            }
            if (good) {
                left.add(print);
            }
        }
        return left;
    }

    int prints(int k) {
        List<String> all = printsAt(k);
        return all == null ? -2 : all.size();
    }

    int sure(int cell, int k) {
        List<String> all = printsAt(k);
        if (all == null || all.isEmpty() || !slotCells().contains(cell)) {
            return -1;
        }
        char letter = all.get(0).charAt(cell);
        return all.stream().allMatch(p -> p.charAt(cell) == letter) ? letter - 'a' + 1 : 0;
    }

    int ask(int what, int k) {
        List<String> all = printsAt(k);
        if (all == null || all.isEmpty() || slots() == 0 || what != 0 && what != 1) {
            return -1;
        }
        int best = -1;
        long fewest = Long.MAX_VALUE;
        for (int cell : slotCells()) {
            long most = 0;
            for (char c = 'a'; c <= 'z'; c++) {
                char letter = c;
                most = Math.max(most, all.stream().filter(p -> p.charAt(cell) == letter).count());
            }
            if (most < fewest) {
                fewest = most;
                best = cell;
            }
        }
        return what == 0 ? best : (int) fewest;
    }

    int image(int box) {
        if (box < 0 || box > 2) {
            return -1;
        }
        boxes.put(box, new Moment(cells, year));
        return year;
    }

    int back(int box) {
        Moment moment = boxes.get(box);
        if (moment == null) {
            return -1;
        }
        cells = moment.cells();
        year = moment.year();
        behind.clear();
        ahead.clear();
        return year;
    }

    int about(int what) {
        return switch (what) {
            case 0 -> spec.acts.size();
            case 1 -> spec.parties.size();
            case 2 -> spec.rows;
            case 3 -> spec.columns;
            case 4 -> year;
            case 5 -> blackCount();
            case 6 -> spec.ifs.size();
            case 7 -> spec.nevers.size();
            case 8 -> behind.size();
            case 9 -> ahead.size();
            case 10 -> sights.size();
            case 11 -> time;
            case 12 -> 0;
            case 13 -> spec.units;
            case 14 -> lying.size();
            default -> -1;
        };
    }
}
