import java.math.BigInteger;
import java.util.ArrayDeque;
import java.util.ArrayList;
import java.util.Arrays;
import java.util.Deque;
import java.util.HashMap;
import java.util.List;
import java.util.Map;
import java.util.function.Consumer;
import java.util.function.IntPredicate;

/** The document told a second time, with the whole library and without any thrift: what answers are due. */
final class Model {
    static final int NONE = -1000000, BAD = -1000001, STATE = -1000002, FULL = -1000003;

    /** The kinds as the document tells them: what is lent to all, what each has of its own. */
    abstract static class Quarrel implements Cloneable {
        int number, at, size, brand;
        List<Integer> trace;

        abstract int kind();

        boolean crosses(int grid) {
            return grid < size;
        }

        boolean wouldGo(int hayHere) {
            return true;
        }

        int growth() {
            return 1;
        }

        int least() {
            return 0;
        }

        int askSize() {
            trace.add(10);
            return size;
        }

        int askMark() {
            trace.add(20);
            return number;
        }

        boolean dead() {
            return size == 0;
        }

        Quarrel twin() {
            try {
                return (Quarrel) clone();
            } catch (CloneNotSupportedException e) {
                throw new IllegalStateException(e);
            }
        }
    }

    static class Plain extends Quarrel {
        @Override int kind() {
            return 1;
        }

        @Override int askSize() {
            trace.add(11);
            int lent = super.askSize();
            return lent + askMark();
        }

        @Override int askMark() {
            trace.add(21);
            return super.askMark() + at;
        }
    }

    static final class Thin extends Plain {
        @Override int kind() {
            return 2;
        }

        @Override boolean crosses(int grid) {
            return grid < size + 3;
        }

        @Override int askSize() {
            trace.add(12);
            return -super.askSize();
        }

        @Override int askMark() {
            trace.add(24);
            return super.askMark() * 2;
        }
    }

    static final class Calf extends Plain {
        @Override int kind() {
            return 3;
        }

        @Override boolean crosses(int grid) {
            return grid == 0;
        }

        @Override int growth() {
            return 2;
        }

        @Override int askMark() {
            trace.add(22);
            return super.askMark() - 1000;
        }
    }

    static class Bull extends Quarrel {
        @Override int kind() {
            return 4;
        }

        @Override boolean wouldGo(int hayHere) {
            return hayHere == 0;
        }

        @Override int askSize() {
            trace.add(13);
            return super.askSize() - 100;
        }

        @Override int askMark() {
            trace.add(23);
            int lent = super.askMark();
            return lent - askSize();
        }
    }

    static final class Tame extends Bull {
        @Override int kind() {
            return 5;
        }

        @Override int least() {
            return 1;
        }

        @Override int askSize() {
            trace.add(14);
            return super.askSize() * 2;
        }
    }

    static Quarrel ofKind(int kind) {
        switch (kind) {
            case 1: return new Plain();
            case 2: return new Thin();
            case 3: return new Calf();
            case 4: return new Bull();
            case 5: return new Tame();
            default: throw new IllegalArgumentException();
        }
    }

    record Road(int one, int other, int grid) {
    }

    static final class County {
        int year;
        List<Integer> hay = new ArrayList<>();
        List<Road> roads = new ArrayList<>();
        List<Quarrel> quarrels = new ArrayList<>();

        County twin() {
            County twin = new County();
            twin.year = year;
            twin.hay.addAll(hay);
            twin.roads.addAll(roads);
            quarrels.forEach(q -> twin.quarrels.add(q.twin()));
            return twin;
        }

        void put(int parish, int n) {
            hay.set(parish, Math.min(99, hay.get(parish) + n));
        }

        void setGrid(int road, int grid) {
            Road r = roads.get(road);
            roads.set(road, new Road(r.one, r.other, grid));
        }

        int goal(Quarrel q) {
            if (q.dead() || !q.wouldGo(hay.get(q.at))) {
                return q.at;
            }
            int most = roads.stream().filter(r -> end(r, q) >= 0 && q.crosses(r.grid))
                .mapToInt(r -> hay.get(end(r, q))).max().orElse(-1);
            if (most <= hay.get(q.at)) {
                return q.at;
            }
            return roads.stream().filter(r -> end(r, q) >= 0 && q.crosses(r.grid))
                .filter(r -> hay.get(end(r, q)) == most).mapToInt(r -> end(r, q)).findFirst().orElseThrow();
        }

        int end(Road r, Quarrel q) {
            return r.one == q.at ? r.other : r.other == q.at ? r.one : -1;
        }

        /** One year; what happens is told: "w" or "e", the quarrel, where. */
        void pass(List<String> told) {
            for (Quarrel q : quarrels) {
                if (q.dead()) {
                    continue;
                }
                int goal = goal(q);
                if (goal != q.at) {
                    told.add("w" + q.number + goal);
                }
                q.at = goal;
                if (hay.get(goal) > 0) {
                    told.add("e" + q.number + goal);
                    hay.set(goal, hay.get(goal) - 1);
                    q.size = Math.min(9, q.size + q.growth());
                } else {
                    q.size = Math.max(q.least(), q.size - 1);
                }
            }
            year++;
        }

        County after(int n) {
            County then = twin();
            for (int i = 0; i < n; i++) {
                then.pass(new ArrayList<>());
            }
            return then;
        }

        List<String> toldBy(int n) {
            County then = twin();
            List<String> told = new ArrayList<>();
            for (int i = 0; i < n; i++) {
                then.pass(told);
            }
            return told;
        }

        boolean lives(int q, int parish) {
            return !quarrels.get(q).dead() && quarrels.get(q).at == parish;
        }

        long living() {
            return quarrels.stream().filter(q -> !q.dead()).count();
        }
    }

    record Row(int lane, int[] items) {
    }

    /** A fault ends the reading by this. */
    static final class Fault extends Exception {
        private static final long serialVersionUID = 1;
        final int place, number;

        Fault(int place, int number) {
            this.place = place;
            this.number = number;
        }
    }

    record Token(int place, char sign, int value) {
    }

    final Map<Integer, Row> rows = new HashMap<>();
    final StringBuilder tape = new StringBuilder();
    County now;
    final Deque<County> acts = new ArrayDeque<>();
    final County[] images = new County[2];
    List<Integer> trace = new ArrayList<>();
    int fault, status;

    static boolean in(long v, long least, long most) {
        return least <= v && v <= most;
    }

    boolean isParish(int p) {
        return now != null && in(p, 0, now.hay.size() - 1);
    }

    boolean isRoad(int r) {
        return now != null && in(r, 0, now.roads.size() - 1);
    }

    boolean isQuarrel(int q) {
        return now != null && in(q, 0, now.quarrels.size() - 1);
    }

    boolean dead(int q) {
        return now.quarrels.get(q).dead();
    }

    int found(int finding) {
        status = finding;
        return -1000010 - finding;
    }

    int fine(int answer) {
        status = 0;
        return answer;
    }

    void act() {
        acts.push(now.twin());
        if (acts.size() > 24) {
            acts.removeLast();
        }
    }

    static int bits(int from, int to, IntPredicate is) {
        int bits = 0;
        for (int i = from; i <= to; i++) {
            bits |= is.test(i) ? 1 << i : 0;
        }
        return bits;
    }

    // rows

    int row(int row, int lane, int n) {
        if (!in(row, 0, 7) || !in(lane, 0, 2) || n > 40) {
            return BAD;
        }
        if (n < 0) {
            return found(4);
        }
        rows.put(row, new Row(lane, new int[n]));
        return fine(n);
    }

    int set(int row, int i, int v) {
        if (!in(row, 0, 7)) {
            return BAD;
        }
        Row r = rows.get(row);
        if (r == null) {
            return found(1);
        }
        if (!in(i, 0, r.items.length - 1)) {
            return found(2);
        }
        int shift = new int[] {24, 16, 0}[r.lane];
        r.items[i] = v << shift >> shift;
        return fine(r.items[i]);
    }

    int copy(int a, int i, int b, int j, int n) {
        if (!in(a, 0, 7) || !in(b, 0, 7)) {
            return BAD;
        }
        Row from = rows.get(a);
        Row to = rows.get(b);
        if (from == null || to == null) {
            return found(1);
        }
        if (from.lane != to.lane) {
            return found(5);
        }
        if (i < 0 || j < 0 || n < 0 || (long) i + n > from.items.length || (long) j + n > to.items.length) {
            return found(2);
        }
        int[] were = from.items.clone();
        for (int k = 0; k < n; k++) {
            to.items[j + k] = were[i + k];
        }
        return fine(n);
    }

    int drop(int row) {
        if (!in(row, 0, 7)) {
            return BAD;
        }
        Row was = rows.remove(row);
        return was == null ? found(1) : fine(was.items.length);
    }

    // what is told

    int feed(int letter) {
        if (!in(letter, 0, 255)) {
            return BAD;
        }
        if (tape.length() == 120) {
            return FULL;
        }
        return tape.append((char) letter).length();
    }

    /** All tokens up to one that is none; then one with the sign 0, at the end or where that stands. */
    static List<Token> tokens(String text) {
        List<Token> all = new ArrayList<>();
        int i = 0;
        while (i < text.length()) {
            char c = text.charAt(i);
            if (c >= 'a' && c <= 'z' || c == ',' || c == ';') {
                all.add(new Token(i, c, 0));
                i++;
            } else if (c >= '0' && c <= '9') {
                String figures = text.substring(i).replaceAll("(?s)[^0-9].*", "");
                if (figures.length() > 2) {
                    break;
                }
                all.add(new Token(i, '#', Integer.parseInt(figures)));
                i += figures.length();
            } else {
                break;
            }
        }
        all.add(new Token(i, (char) 0, 0));
        return all;
    }

    /** The shape of an entry behind its letter: '#' for a number. */
    private static int[] entry(Deque<Token> left, int[] least, int[] most, boolean apart) throws Fault {
        int[] numbers = new int[least.length];
        for (int k = 0; k < least.length; k++) {
            Token number = left.pop();
            if (number.sign != '#') {
                throw new Fault(number.place, 1);
            }
            boolean same = apart && k == 1 && number.value == numbers[0];
            if (!in(number.value, least[k], most[k]) || same) {
                throw new Fault(number.place, 2);
            }
            numbers[k] = number.value;
            Token sign = left.pop();
            if (sign.sign != (k + 1 < least.length ? ',' : ';')) {
                throw new Fault(sign.place, 1);
            }
        }
        return numbers;
    }

    static County read(String text) throws Fault {
        Deque<Token> left = new ArrayDeque<>(tokens(text));
        County county = new County();
        String may = "c";
        while (true) {
            Token head = left.pop();
            if (head.sign == 0 && head.place == text.length() && !county.quarrels.isEmpty()) {
                return county;
            }
            if (head.sign == 0 || may.indexOf(head.sign) < 0) {
                throw new Fault(head.place, 1);
            }
            if (head.sign == 'r' && county.roads.size() == 7) {
                throw new Fault(head.place, 3);
            }
            if ("ptkbm".indexOf(head.sign) >= 0 && county.quarrels.size() == 5) {
                throw new Fault(head.place, 3);
            }
            int last = county.hay.size() - 1;
            if (head.sign == 'c') {
                int[] law = entry(left, new int[] {2, 0}, new int[] {7, 9}, false);
                county.hay.addAll(java.util.Collections.nCopies(law[0], law[1]));
                may = "r";
            } else if (head.sign == 'r') {
                int[] road = entry(left, new int[] {0, 0, 0}, new int[] {last, last, 9}, true);
                county.roads.add(new Road(road[0], road[1], road[2]));
                may = "rptkbm";
            } else {
                int[] told = entry(left, new int[] {0, 1, 0}, new int[] {last, 9, last}, false);
                Quarrel quarrel = ofKind("ptkbm".indexOf(head.sign) + 1);
                quarrel.number = county.quarrels.size();
                quarrel.at = told[0];
                quarrel.size = told[1];
                quarrel.brand = told[2];
                county.quarrels.add(quarrel);
                may = "ptkbm";
            }
        }
    }

    int county() {
        String text = tape.toString();
        tape.setLength(0);
        try {
            now = read(text);
        } catch (Fault f) {
            fault = f.number;
            return -1000100 - f.place;
        }
        acts.clear();
        return now.quarrels.size();
    }

    int undo() {
        if (acts.isEmpty()) {
            return STATE;
        }
        now = acts.pop();
        return acts.size();
    }

    // what is done

    int years(int n) {
        if (now == null) {
            return STATE;
        }
        if (!in(n, 1, 24)) {
            return BAD;
        }
        if (now.year + n > 999) {
            return FULL;
        }
        for (int i = 0; i < n; i++) {
            act();
            now.pass(new ArrayList<>());
        }
        return (int) now.living();
    }

    int hay(int parish, int n) {
        if (!isParish(parish) || !in(n, 1, 9)) {
            return BAD;
        }
        act();
        now.put(parish, n);
        return now.hay.get(parish);
    }

    int grid(int road, int n) {
        if (!isRoad(road) || !in(n, 0, 9)) {
            return BAD;
        }
        act();
        int was = now.roads.get(road).grid;
        now.setGrid(road, n);
        return was;
    }

    int drive(int quarrel, int road) {
        if (!isQuarrel(quarrel) || !isRoad(road)) {
            return BAD;
        }
        Quarrel q = now.quarrels.get(quarrel);
        int end = now.end(now.roads.get(road), q);
        if (q.dead() || end < 0) {
            return STATE;
        }
        act();
        q.at = end;
        return end;
    }

    int grow(int quarrel, int n) {
        if (!isQuarrel(quarrel) || !in(n, 1, 9)) {
            return BAD;
        }
        if (dead(quarrel)) {
            return STATE;
        }
        act();
        int was = now.quarrels.get(quarrel).size;
        now.quarrels.get(quarrel).size = n;
        return was;
    }

    int quarrel(int quarrel, int what) {
        if (!isQuarrel(quarrel) || !in(what, 0, 4)) {
            return BAD;
        }
        Quarrel q = now.quarrels.get(quarrel);
        int open = bits(0, now.roads.size() - 1, r -> !q.dead()
            && now.end(now.roads.get(r), q) >= 0 && q.crosses(now.roads.get(r).grid));
        return new int[] {q.at, q.size, q.brand, open, now.goal(q)}[what];
    }

    int road(int road, int what) {
        if (!isRoad(road) || !in(what, 0, 2)) {
            return BAD;
        }
        Road r = now.roads.get(road);
        return new int[] {r.one, r.other, r.grid}[what];
    }

    int parish(int parish, int what) {
        if (!isParish(parish) || !in(what, 0, 2)) {
            return BAD;
        }
        int there = bits(0, now.quarrels.size() - 1, q -> now.lives(q, parish));
        int roads = bits(0, now.roads.size() - 1,
            r -> now.roads.get(r).one == parish || now.roads.get(r).other == parish);
        return new int[] {now.hay.get(parish), there, roads}[what];
    }

    // foretold

    int ahead(int quarrel, int n, int what) {
        if (!isQuarrel(quarrel) || !in(n, 0, 60) || !in(what, 0, 1)) {
            return BAD;
        }
        Quarrel q = now.after(n).quarrels.get(quarrel);
        return what == 0 ? q.at : q.size;
    }

    int hayAhead(int parish, int n) {
        return isParish(parish) && in(n, 0, 60) ? now.after(n).hay.get(parish) : BAD;
    }

    static int first(County from, java.util.function.Predicate<County> is) {
        County then = from.twin();
        for (int year = 0; year <= 60; year++) {
            if (is.test(then)) {
                return year;
            }
            then.pass(new ArrayList<>());
        }
        return NONE;
    }

    int dies(int quarrel) {
        return isQuarrel(quarrel) ? first(now, c -> c.quarrels.get(quarrel).dead()) : BAD;
    }

    int comes(int quarrel, int parish) {
        return isQuarrel(quarrel) && isParish(parish) ? first(now, c -> c.lives(quarrel, parish)) : BAD;
    }

    int meet(int quarrel, int other) {
        if (!isQuarrel(quarrel) || !isQuarrel(other) || quarrel == other) {
            return BAD;
        }
        return first(now, c -> c.lives(quarrel, c.quarrels.get(quarrel).at)
            && c.lives(other, c.quarrels.get(quarrel).at));
    }

    int grazed(int n) {
        if (now == null) {
            return STATE;
        }
        if (!in(n, 1, 60)) {
            return BAD;
        }
        List<String> told = now.toldBy(n);
        return bits(0, 6, p -> told.stream().anyMatch(t -> t.startsWith("e") && t.endsWith("" + p)));
    }

    /** The sets of few come first, then the least: the first that will do. */
    static int fewest(int n, IntPredicate will) {
        for (int many = 0; many <= n; many++) {
            for (int set = 0; set < 1 << n; set++) {
                if (Integer.bitCount(set) == many && will.test(set)) {
                    return set;
                }
            }
        }
        return NONE;
    }

    static int told(int set, int what) {
        return set == NONE || what == 1 ? set : Integer.bitCount(set);
    }

    int shuts(int parish, int n, int what) {
        if (!isParish(parish) || !in(n, 1, 30) || !in(what, 0, 1)) {
            return BAD;
        }
        return told(fewest(now.roads.size(), set -> {
            County then = now.twin();
            for (int r = 0; r < now.roads.size(); r++) {
                if ((set >> r & 1) == 1) {
                    then.setGrid(r, 12);
                }
            }
            for (int year = 1; year <= n; year++) {
                then.pass(new ArrayList<>());
                for (Quarrel q : then.quarrels) {
                    if (now.quarrels.get(q.number).at != parish && q.at == parish) {
                        return false;
                    }
                }
            }
            return true;
        }), what);
    }

    int lures(int quarrel, int parish, int n, int what) {
        if (!isQuarrel(quarrel) || !isParish(parish) || !in(n, 1, 30) || !in(what, 0, 1)) {
            return BAD;
        }
        return told(fewest(now.hay.size(), set -> {
            County then = now.twin();
            for (int p = 0; p < now.hay.size(); p++) {
                if ((set >> p & 1) == 1) {
                    then.put(p, 9);
                }
            }
            return then.after(n).lives(quarrel, parish);
        }), what);
    }

    int starve(int quarrel, int what) {
        if (!isQuarrel(quarrel) || !in(what, 0, 1)) {
            return BAD;
        }
        for (int year = 1; year <= 60 && !dead(quarrel); year++) {
            for (int p = 0; p < now.hay.size(); p++) {
                County then = now.twin();
                then.hay.set(p, 0);
                if (then.after(year).quarrels.get(quarrel).dead()) {
                    return what == 0 ? p : year;
                }
            }
        }
        return NONE;
    }

    /** How far each parish is for a quarrel; those that it does not reach are missing. */
    Map<Integer, Integer> ways(Quarrel q) {
        Map<Integer, Integer> far = new HashMap<>();
        Deque<Integer> next = new ArrayDeque<>(List.of(q.at));
        far.put(q.at, 0);
        while (!next.isEmpty()) {
            int here = next.removeFirst();
            for (Road r : now.roads) {
                int there = r.one == here ? r.other : r.other == here ? r.one : here;
                if (q.crosses(r.grid) && !far.containsKey(there)) {
                    far.put(there, far.get(here) + 1);
                    next.addLast(there);
                }
            }
        }
        return far;
    }

    int way(int quarrel, int parish) {
        if (!isQuarrel(quarrel) || !isParish(parish)) {
            return BAD;
        }
        return dead(quarrel) ? STATE : ways(now.quarrels.get(quarrel)).getOrDefault(parish, NONE);
    }

    int reach(int quarrel) {
        if (!isQuarrel(quarrel)) {
            return BAD;
        }
        return dead(quarrel) ? STATE : bits(0, 6, ways(now.quarrels.get(quarrel))::containsKey);
    }

    int home() {
        if (now == null) {
            return STATE;
        }
        return bits(0, now.quarrels.size() - 1, q -> now.lives(q, now.quarrels.get(q).brand));
    }

    int fed(int n, int what) {
        if (now == null) {
            return STATE;
        }
        if (!in(n, 1, 60) || !in(what, 0, 1)) {
            return BAD;
        }
        List<String> told = now.toldBy(n);
        int best = 0;
        long most = -1;
        for (Quarrel q : now.quarrels) {
            long often = told.stream().filter(t -> t.startsWith("e" + q.number)).count();
            if (often > most) {
                most = often;
                best = q.number;
            }
        }
        return what == 0 ? best : (int) most;
    }

    /** Where a quarrel is behind each of n years, once the county was changed. */
    List<Integer> path(int quarrel, int n, Consumer<County> change) {
        County then = now.twin();
        change.accept(then);
        List<Integer> path = new ArrayList<>();
        for (int year = 0; year < n; year++) {
            then.pass(new ArrayList<>());
            path.add(then.quarrels.get(quarrel).at);
        }
        return path;
    }

    int findingOf(int row, int i, int n) {
        Row r = rows.get(row);
        return r == null ? 1 : i < 0 || (long) i + n > r.items.length ? 2 : 0;
    }

    List<Integer> items(int row, int i, int n) {
        return Arrays.stream(rows.get(row).items).skip(i).limit(n).boxed().toList();
    }

    int who(int quarrel, int which, int row, int i, int n) {
        if (!isQuarrel(quarrel) || !in(which, 0, 2) || !in(row, 0, 7) || !in(n, 1, 12)) {
            return BAD;
        }
        if (dead(quarrel)) {
            return STATE;
        }
        if (findingOf(row, i, n) != 0) {
            return found(findingOf(row, i, n));
        }
        List<Integer> items = items(row, i, n);
        switch (which) {
            case 0: return fine(bits(1, 5, kind -> items.equals(path(quarrel, n, c -> {
                Quarrel was = c.quarrels.get(quarrel);
                Quarrel other = ofKind(kind);
                other.number = was.number;
                other.at = was.at;
                other.size = was.size;
                other.brand = was.brand;
                c.quarrels.set(quarrel, other);
            }))));
            case 1: return fine(bits(1, 9,
                size -> items.equals(path(quarrel, n, c -> c.quarrels.get(quarrel).size = size))));
            default: return fine(bits(0, now.hay.size() - 1,
                p -> items.equals(path(quarrel, n, c -> c.quarrels.get(quarrel).at = p))));
        }
    }

    int grids(int road, int quarrel, int row, int i, int n) {
        if (!isRoad(road) || !isQuarrel(quarrel) || !in(row, 0, 7) || !in(n, 1, 12)) {
            return BAD;
        }
        if (findingOf(row, i, n) != 0) {
            return found(findingOf(row, i, n));
        }
        List<Integer> items = items(row, i, n);
        return fine(bits(0, 9, grid -> items.equals(path(quarrel, n, c -> c.setGrid(road, grid)))));
    }

    int which(int row, int i, int n) {
        if (now == null) {
            return STATE;
        }
        if (!in(row, 0, 7) || !in(n, 1, 12)) {
            return BAD;
        }
        if (findingOf(row, i, n) != 0) {
            return found(findingOf(row, i, n));
        }
        List<Integer> items = items(row, i, n);
        return fine(bits(0, now.quarrels.size() - 1, q -> items.equals(path(q, n, c -> { }))));
    }

    long snow(int quarrel, int parish, int n, int p, int what) {
        if (!isQuarrel(quarrel) || !isParish(parish) || !in(n, 0, 30) || !in(p, 0, 10) || !in(what, 0, 1)) {
            return BAD;
        }
        BigInteger[] chance = snow(now.twin(), 0, quarrel, parish, n, p);
        BigInteger common = chance[0].gcd(chance[1]);
        return chance[what].divide(common).longValueExact();
    }

    /** The chance from road r on, as a fraction: it falls on the road, or does not. */
    private BigInteger[] snow(County then, int r, int quarrel, int parish, int n, int p) {
        if (r == then.roads.size()) {
            boolean there = then.after(n).lives(quarrel, parish);
            return new BigInteger[] {there ? BigInteger.ONE : BigInteger.ZERO, BigInteger.ONE};
        }
        BigInteger[] without = snow(then, r + 1, quarrel, parish, n, p);
        if (then.roads.get(r).grid == 0) {
            return without;
        }
        County filled = then.twin();
        filled.setGrid(r, 0);
        BigInteger[] with = snow(filled, r + 1, quarrel, parish, n, p);
        BigInteger above = with[0].multiply(without[1]).multiply(BigInteger.valueOf(p))
            .add(without[0].multiply(with[1]).multiply(BigInteger.valueOf(10 - p)));
        BigInteger below = with[1].multiply(without[1]).multiply(BigInteger.TEN);
        BigInteger common = above.gcd(below);
        return new BigInteger[] {above.divide(common), below.divide(common)};
    }

    int drawn(int n, int seed, int what) {
        if (now == null) {
            return STATE;
        }
        if (!in(n, 0, 60) || !in(seed, 1, 999999) || !in(what, 0, 1)) {
            return BAD;
        }
        County then = now.twin();
        List<String> told = new ArrayList<>();
        BigInteger x = BigInteger.valueOf(seed);
        for (int year = 0; year < n; year++) {
            x = x.multiply(BigInteger.valueOf(16807)).mod(BigInteger.valueOf(Integer.MAX_VALUE));
            int drawn = x.intValueExact();
            then.put(drawn % then.hay.size(), drawn % 5);
            if (drawn % 6 == 0) {
                then.setGrid(drawn % then.roads.size(), 0);
            }
            then.pass(told);
        }
        return what == 0 ? (int) then.living() : (int) told.stream().filter(t -> t.startsWith("w")).count();
    }

    int image(int k) {
        if (!in(k, 0, 1)) {
            return BAD;
        }
        if (now == null) {
            return STATE;
        }
        images[k] = now.twin();
        return 1;
    }

    int restore(int k) {
        if (!in(k, 0, 1)) {
            return BAD;
        }
        if (images[k] == null) {
            return STATE;
        }
        now = images[k].twin();
        acts.clear();
        return 1;
    }

    // asked

    int kind(int one) {
        return isQuarrel(one) ? now.quarrels.get(one).kind() : BAD;
    }

    int as(int one, int kind) {
        if (!isQuarrel(one) || !in(kind, 0, 5)) {
            return BAD;
        }
        Class<?>[] kinds = {Quarrel.class, Plain.class, Thin.class, Calf.class, Bull.class, Tame.class};
        return kinds[kind].isInstance(now.quarrels.get(one)) ? fine(one) : found(3);
    }

    int ask(int one, int what) {
        if (!isQuarrel(one) || !in(what, 0, 1)) {
            return BAD;
        }
        trace = new ArrayList<>();
        Quarrel q = now.quarrels.get(one);
        q.trace = trace;
        return what == 0 ? q.askSize() : q.askMark();
    }

    int trace(int i) {
        return in(i, 0, Math.min(16, trace.size()) - 1) ? trace.get(i) : NONE;
    }

    int count(int what) {
        switch (what) {
            case 0: return rows.size();
            case 1: return now == null ? 0 : now.hay.size();
            case 2: return now == null ? 0 : now.roads.size();
            case 3: return now == null ? 0 : now.quarrels.size();
            case 4: return now == null ? 0 : now.year;
            case 5: return now == null ? 0 : now.hay.stream().mapToInt(Integer::intValue).sum();
            case 6: return acts.size();
            case 7: return tape.length();
            default: return BAD;
        }
    }
}
