import java.util.ArrayDeque;
import java.util.ArrayList;
import java.util.Arrays;
import java.util.Collection;
import java.util.List;
import java.util.Set;
import java.util.TreeSet;

/**
 * The document once more, as slow and as literal as can be: it lists a step's places one by one and
 * keeps the first that does something. It shares nothing with HumanSteps, so that a slip in one of
 * them shows as a difference.
 */
final class Reference {
    /** A place of a step: what is set (or -1), what goes, and why. */
    static final class Place {
        final TreeSet<Integer> reason = new TreeSet<>();
        final TreeSet<Integer> goes = new TreeSet<>();
        int cell = -1;
        int symbol = -1;
    }

    private static final class Past {
        int step;
        boolean[][] candidates;
        int[] values;
    }

    static final String[][] NAMES = {
        {"last", "in box", "in row", "in column", "pointing", "claiming", "pair", "triple", "quad",
            "hidden pair", "hidden triple", "two rows", "two columns", "three rows", "three columns",
            "wing", "great wing", "colours", "only one answer"},
        {"letzte", "im Block", "in der Zeile", "in der Spalte", "zeigend", "fordernd", "Paar", "Tripel",
            "Quartett", "verstecktes Paar", "verstecktes Tripel", "zwei Zeilen", "zwei Spalten",
            "drei Zeilen", "drei Spalten", "Schwinge", "grosse Schwinge", "Farben", "nur eine Antwort"}};

    final int n;
    private final int wide;
    private final int high;
    private boolean[][] candidates;
    private int[] values;
    private final List<List<Integer>> houses = new ArrayList<>();
    private final boolean[] on = new boolean[19];
    private final int[] done = new int[19];
    private final ArrayDeque<Past> past = new ArrayDeque<>();
    private Place found;
    private int foundStep;

    Reference(int kind) {
        int k = Math.max(0, Math.min(2, kind));
        wide = k == 0 ? 2 : 3;
        high = k == 2 ? 3 : 2;
        n = wide * high;
        candidates = new boolean[n * n][n];
        for (boolean[] row : candidates) {
            Arrays.fill(row, true);
        }
        values = new int[n * n];
        Arrays.fill(values, -1);
        for (int h = 0; h < 3 * n; h++) {
            int house = h;
            List<Integer> cells = all();
            cells.removeIf(c -> !in(c, house));
            houses.add(cells);
        }
        Arrays.fill(on, true);
        on[18] = false;
    }

    // The face.

    boolean set(int cell, int symbol) {
        check(cell, symbol);
        if (values[cell] >= 0 || !candidates[cell][symbol]) {
            return false;
        }
        doPlace(setting(cell, symbol));
        found = null;
        past.clear();
        return true;
    }

    boolean take(int cell, int symbol) {
        check(cell, symbol);
        if (values[cell] >= 0 || !candidates[cell][symbol]) {
            return false;
        }
        candidates[cell][symbol] = false;
        found = null;
        past.clear();
        return true;
    }

    boolean enable(int step, boolean wanted) {
        checkStep(step);
        if (on[step] == wanted) {
            return false;
        }
        on[step] = wanted;
        found = null;
        return true;
    }

    int find() {
        found = null;
        if (broken()) {
            return -2;
        }
        for (int step = 0; step < 19; step++) {
            if (!on[step]) {
                continue;
            }
            for (Place place : places(step)) {
                if (place.cell >= 0 || !place.goes.isEmpty()) {
                    found = place;
                    foundStep = step;
                    return step;
                }
            }
        }
        return -1;
    }

    int found(int k) {
        if (found == null) {
            return -1;
        }
        int[] all = {foundStep, found.reason.size(), found.goes.size(), found.cell, found.symbol};
        return k >= 0 && k < 5 ? all[k] : -1;
    }

    int reason(int k) {
        return found == null ? -1 : nth(found.reason, k);
    }

    int goes(int k) {
        return found == null ? -1 : nth(found.goes, k);
    }

    boolean apply() {
        if (found == null) {
            return false;
        }
        Past before = new Past();
        before.step = foundStep;
        before.candidates = new boolean[n * n][];
        for (int c = 0; c < n * n; c++) {
            before.candidates[c] = candidates[c].clone();
        }
        before.values = values.clone();
        past.push(before);
        doPlace(found);
        done[foundStep]++;
        found = null;
        return true;
    }

    int solve(int most) {
        if (most < 0) {
            return -1;
        }
        int count = 0;
        while (count < most && find() >= 0) {
            apply();
            count++;
        }
        found = null;
        return count;
    }

    int undo() {
        if (past.isEmpty()) {
            return -1;
        }
        Past before = past.pop();
        candidates = before.candidates;
        values = before.values;
        done[before.step]--;
        found = null;
        return before.step;
    }

    int done(int step) {
        checkStep(step);
        return done[step];
    }

    int candidates(int cell) {
        check(cell, 0);
        int bits = 0;
        for (int s = 0; s < n; s++) {
            bits += candidates[cell][s] ? 1 << s : 0;
        }
        return bits;
    }

    int value(int cell) {
        check(cell, 0);
        return values[cell];
    }

    int state(int what) {
        switch (what) {
            case 0:
                return open(all()).size();
            case 1:
                int sum = 0;
                for (int c : open(all())) {
                    sum += symbolsOf(List.of(c)).size();
                }
                return sum;
            case 2:
                return broken() ? 1 : 0;
            case 3:
                return n;
            case 4:
                return Arrays.stream(done).sum();
            default:
                return -1;
        }
    }

    int words(int language, int i) {
        if (found == null || language < 0 || language > 1 || i < 0) {
            return -1;
        }
        StringBuilder text = new StringBuilder(NAMES[language][foundStep]);
        for (int c : found.reason) {
            text.append(" r").append(c / n + 1).append("c").append(c % n + 1);
        }
        return i < text.length() ? text.charAt(i) : -1;
    }

    // Grid and houses.

    private void check(int cell, int symbol) {
        if (cell < 0 || cell >= n * n) {
            throw new ArrayIndexOutOfBoundsException();
        }
        if (symbol < 0 || symbol >= n) {
            throw new IllegalArgumentException();
        }
    }

    private void checkStep(int step) {
        if (step < 0 || step > 18) {
            throw new ArrayIndexOutOfBoundsException();
        }
    }

    private static int nth(Collection<Integer> numbers, int k) {
        return k < 0 || k >= numbers.size() ? -1 : new ArrayList<>(numbers).get(k);
    }

    private List<Integer> all() {
        List<Integer> list = new ArrayList<>();
        for (int c = 0; c < n * n; c++) {
            list.add(c);
        }
        return list;
    }

    private int boxOf(int cell) {
        return cell / n / high * (n / wide) + cell % n / wide;
    }

    private boolean in(int cell, int house) {
        return house < n ? cell / n == house
            : house < 2 * n ? cell % n == house - n
            : boxOf(cell) == house - 2 * n;
    }

    private List<Integer> house(int house) {
        return houses.get(house);
    }

    private boolean see(int a, int b) {
        return a != b && (a / n == b / n || a % n == b % n || boxOf(a) == boxOf(b));
    }

    private List<Integer> open(Collection<Integer> cells) {
        List<Integer> list = new ArrayList<>(cells);
        list.removeIf(c -> values[c] >= 0);
        return list;
    }

    private List<Integer> with(Collection<Integer> cells, int symbol) {
        List<Integer> list = new ArrayList<>(cells);
        list.removeIf(c -> !candidates[c][symbol]);
        return list;
    }

    private Set<Integer> symbolsOf(Collection<Integer> cells) {
        Set<Integer> set = new TreeSet<>();
        for (int c : cells) {
            for (int s = 0; s < n; s++) {
                if (candidates[c][s]) {
                    set.add(s);
                }
            }
        }
        return set;
    }

    private boolean broken() {
        for (int c = 0; c < n * n; c++) {
            if (symbolsOf(List.of(c)).isEmpty()) {
                return true;
            }
        }
        for (int h = 0; h < 3 * n; h++) {
            if (symbolsOf(house(h)).size() < n) {
                return true;
            }
        }
        return false;
    }

    private void doPlace(Place place) {
        for (int gone : place.goes) {
            candidates[gone / n][gone % n] = false;
        }
        if (place.cell >= 0) {
            values[place.cell] = place.symbol;
        }
    }

    private Place setting(int cell, int symbol) {
        Place place = new Place();
        place.cell = cell;
        place.symbol = symbol;
        for (int s = 0; s < n; s++) {
            if (s != symbol) {
                go(place, cell, s);
            }
        }
        for (int c : all()) {
            if (see(c, cell)) {
                go(place, c, symbol);
            }
        }
        return place;
    }

    private void go(Place place, int cell, int symbol) {
        if (candidates[cell][symbol]) {
            place.goes.add(n * cell + symbol);
        }
    }

    /** All sets of so many of the numbers, the set with the lesser number where they differ first. */
    private static List<List<Integer>> sets(List<Integer> numbers, int size) {
        List<List<Integer>> result = new ArrayList<>();
        if (size == 0) {
            result.add(new ArrayList<>());
            return result;
        }
        for (int i = 0; i < numbers.size(); i++) {
            for (List<Integer> rest : sets(numbers.subList(i + 1, numbers.size()), size - 1)) {
                List<Integer> set = new ArrayList<>();
                set.add(numbers.get(i));
                set.addAll(rest);
                result.add(set);
            }
        }
        return result;
    }

    // The steps.

    private List<Place> places(int step) {
        List<Place> list = new ArrayList<>();
        switch (step) {
            case 0: last(list); break;
            case 1: onlyPlace(list, 2 * n); break;
            case 2: onlyPlace(list, 0); break;
            case 3: onlyPlace(list, n); break;
            case 4: pointing(list); break;
            case 5: claiming(list); break;
            case 6: naked(list, 2); break;
            case 7: naked(list, 3); break;
            case 8: naked(list, 4); break;
            case 9: hidden(list, 2); break;
            case 10: hidden(list, 3); break;
            case 11: lines(list, 2, true); break;
            case 12: lines(list, 2, false); break;
            case 13: lines(list, 3, true); break;
            case 14: lines(list, 3, false); break;
            case 15: wing(list, false); break;
            case 16: wing(list, true); break;
            case 17: colours(list); break;
            default: onlyOne(list); break;
        }
        return list;
    }

    private void last(List<Place> list) {
        for (int c : open(all())) {
            Set<Integer> symbols = symbolsOf(List.of(c));
            if (symbols.size() == 1) {
                Place place = setting(c, symbols.iterator().next());
                place.reason.add(c);
                list.add(place);
            }
        }
    }

    private void onlyPlace(List<Place> list, int first) {
        for (int h = first; h < first + n; h++) {
            for (int s = 0; s < n; s++) {
                List<Integer> where = with(house(h), s);
                if (where.size() == 1 && values[where.get(0)] < 0) {
                    Place place = setting(where.get(0), s);
                    place.reason.addAll(house(h));
                    list.add(place);
                }
            }
        }
    }

    private void takeRest(List<Place> list, List<Integer> reason, int from, int symbol) {
        Place place = new Place();
        place.reason.addAll(reason);
        for (int c : house(from)) {
            if (!reason.contains(c)) {
                go(place, c, symbol);
            }
        }
        list.add(place);
    }

    private void pointing(List<Place> list) {
        for (int b = 2 * n; b < 3 * n; b++) {
            for (int s = 0; s < n; s++) {
                List<Integer> where = with(house(b), s);
                if (where.size() < 2) {
                    continue;
                }
                int c = where.get(0);
                if (where.stream().allMatch(o -> o / n == c / n)) {
                    takeRest(list, where, c / n, s);
                } else if (where.stream().allMatch(o -> o % n == c % n)) {
                    takeRest(list, where, n + c % n, s);
                }
            }
        }
    }

    private void claiming(List<Place> list) {
        for (int l = 0; l < 2 * n; l++) {
            for (int s = 0; s < n; s++) {
                List<Integer> where = with(house(l), s);
                if (where.size() >= 2 && where.stream().allMatch(o -> boxOf(o) == boxOf(where.get(0)))) {
                    takeRest(list, where, 2 * n + boxOf(where.get(0)), s);
                }
            }
        }
    }

    private void naked(List<Place> list, int size) {
        for (int h = 0; h < 3 * n; h++) {
            for (List<Integer> set : sets(open(house(h)), size)) {
                Set<Integer> symbols = symbolsOf(set);
                if (symbols.size() != size) {
                    continue;
                }
                Place place = new Place();
                place.reason.addAll(set);
                for (int c : house(h)) {
                    for (int s : symbols) {
                        if (!set.contains(c)) {
                            go(place, c, s);
                        }
                    }
                }
                list.add(place);
            }
        }
    }

    private void hidden(List<Place> list, int size) {
        for (int h = 0; h < 3 * n; h++) {
            List<Integer> symbols = new ArrayList<>();
            for (int s = 0; s < n; s++) {
                int symbol = s;
                if (house(h).stream().noneMatch(c -> values[c] == symbol)) {
                    symbols.add(s);
                }
            }
            for (List<Integer> set : sets(symbols, size)) {
                Place place = new Place();
                for (int s : set) {
                    place.reason.addAll(with(house(h), s));
                }
                if (place.reason.size() != size) {
                    continue;
                }
                for (int c : place.reason) {
                    for (int s = 0; s < n; s++) {
                        if (!set.contains(s)) {
                            go(place, c, s);
                        }
                    }
                }
                list.add(place);
            }
        }
    }

    private void lines(List<Place> list, int size, boolean rows) {
        List<Integer> numbers = new ArrayList<>();
        for (int l = 0; l < n; l++) {
            numbers.add(l);
        }
        for (int s = 0; s < n; s++) {
            for (List<Integer> set : sets(numbers, size)) {
                Place place = new Place();
                boolean fit = true;
                Set<Integer> across = new TreeSet<>();
                for (int l : set) {
                    List<Integer> where = with(house(rows ? l : n + l), s);
                    fit = fit && where.size() >= 2;
                    place.reason.addAll(where);
                    where.forEach(c -> across.add(rows ? c % n : c / n));
                }
                if (!fit || across.size() != size) {
                    continue;
                }
                for (int a : across) {
                    for (int c : house(rows ? n + a : a)) {
                        if (!set.contains(rows ? c / n : c % n)) {
                            go(place, c, s);
                        }
                    }
                }
                list.add(place);
            }
        }
    }

    private boolean has(int cell, int... symbols) {
        int bits = 0;
        for (int s : symbols) {
            bits |= 1 << s;
        }
        return candidates(cell) == bits;
    }

    private void wing(List<Place> list, boolean great) {
        for (int first : all()) {
            for (List<Integer> others : sets(seenWithTwo(first), 2)) {
                for (int c = 0; c < n; c++) {
                    for (int a = 0; a < n; a++) {
                        for (int b = 0; b < n; b++) {
                            if (a != b && a != c && b != c) {
                                wingOf(list, first, others, new int[] {a, b, c}, great);
                            }
                        }
                    }
                }
            }
        }
    }

    private void wingOf(List<Place> list, int first, List<Integer> others, int[] abc, boolean great) {
        boolean fits = great ? has(first, abc) : has(first, abc[0], abc[1]);
        if (fits && has(others.get(0), abc[0], abc[2]) && has(others.get(1), abc[1], abc[2])) {
            List<Integer> three = new ArrayList<>(others);
            three.add(first);
            addWing(list, three, great ? three : others, abc[2]);
        }
    }

    private List<Integer> seenWithTwo(int cell) {
        List<Integer> list = all();
        list.removeIf(o -> !see(o, cell) || symbolsOf(List.of(o)).size() != 2);
        return symbolsOf(List.of(cell)).size() <= 3 ? list : new ArrayList<>();
    }

    private void addWing(List<Place> list, List<Integer> reason, List<Integer> seen, int symbol) {
        Place place = new Place();
        place.reason.addAll(reason);
        for (int c : all()) {
            if (seen.stream().allMatch(o -> see(c, o))) {
                go(place, c, symbol);
            }
        }
        list.add(place);
    }

    private void colours(List<Place> list) {
        for (int s = 0; s < n; s++) {
            boolean[][] link = new boolean[n * n][n * n];
            for (int h = 0; h < 3 * n; h++) {
                List<Integer> where = with(house(h), s);
                if (where.size() == 2) {
                    link[where.get(0)][where.get(1)] = true;
                    link[where.get(1)][where.get(0)] = true;
                }
            }
            Set<Integer> seen = new TreeSet<>();
            for (int least : all()) {
                if (seen.contains(least)) {
                    continue;
                }
                Set<Integer> light = new TreeSet<>(List.of(least));
                Set<Integer> dark = new TreeSet<>();
                for (boolean more = true; more;) {
                    more = false;
                    for (int a = 0; a < n * n; a++) {
                        for (int b = 0; b < n * n; b++) {
                            if (link[a][b]) {
                                more |= light.contains(a) && dark.add(b);
                                more |= dark.contains(a) && light.add(b);
                            }
                        }
                    }
                }
                seen.addAll(light);
                seen.addAll(dark);
                if (!dark.isEmpty()) {
                    list.add(coloured(light, dark, s));
                }
            }
        }
    }

    private Place coloured(Set<Integer> light, Set<Integer> dark, int symbol) {
        Place place = new Place();
        place.reason.addAll(light);
        place.reason.addAll(dark);
        for (int c : all()) {
            boolean goes;
            if (meet(light)) {
                goes = light.contains(c);
            } else if (meet(dark)) {
                goes = dark.contains(c);
            } else {
                goes = !place.reason.contains(c)
                    && light.stream().anyMatch(o -> see(o, c)) && dark.stream().anyMatch(o -> see(o, c));
            }
            if (goes) {
                go(place, c, symbol);
            }
        }
        return place;
    }

    private boolean meet(Set<Integer> cells) {
        return cells.stream().anyMatch(a -> cells.stream().anyMatch(b -> see(a, b)));
    }

    private void onlyOne(List<Place> list) {
        for (int r = 0; r < n; r++) {
            for (int q = r + 1; q < n; q++) {
                for (int x = 0; x < n; x++) {
                    for (int z = x + 1; z < n; z++) {
                        rectangle(list, List.of(n * r + x, n * r + z, n * q + x, n * q + z));
                    }
                }
            }
        }
    }

    private void rectangle(List<Place> list, List<Integer> four) {
        Set<Integer> boxes = new TreeSet<>();
        four.forEach(c -> boxes.add(boxOf(c)));
        if (boxes.size() != 2 || open(four).size() != 4) {
            return;
        }
        for (int odd : four) {
            List<Integer> three = new ArrayList<>(four);
            three.remove((Integer) odd);
            Set<Integer> two = symbolsOf(three);
            boolean same = two.size() == 2
                && three.stream().allMatch(c -> symbolsOf(List.of(c)).equals(two));
            Set<Integer> of = symbolsOf(List.of(odd));
            if (same && of.containsAll(two) && of.size() > 2) {
                Place place = new Place();
                place.reason.addAll(four);
                two.forEach(s -> go(place, odd, s));
                list.add(place);
            }
        }
    }
}
