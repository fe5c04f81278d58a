import java.util.ArrayDeque;
import java.util.ArrayList;
import java.util.Arrays;
import java.util.HashMap;
import java.util.HashSet;
import java.util.List;
import java.util.Map;
import java.util.Set;
import java.util.TreeMap;
import java.util.TreeSet;

/**
 * The document told a second time, word by word and without a thought for speed, so that long runs on SixAcres can be
 * held against it. It shares nothing with the class under test.
 */
final class Plain {
    record Room(int kind, int owner, int people, int from) { }

    record Note(int cell, Room room, int told, int[] undone) { }

    record Wire(int cell, int from, int fuse) { }

    record Pair(int a, int b) { }

    static final Room NOTHING = new Room(0, -1, 0, -1);

    final List<Note> notes = new ArrayList<>();
    final TreeMap<Integer, Integer> doors = new TreeMap<>();
    final int[] weight = {0, 10, 20, 4, 5, 12, 8, 10};
    final int[] bears = {0, 60, 50, 20, 30, 90, 30, 80};
    final List<Wire> wires = new ArrayList<>();
    final Map<Integer, Integer> supplies = new HashMap<>();
    final Map<Integer, Integer> said = new HashMap<>();
    final List<Pair> turns = new ArrayList<>();
    final List<Pair> wishes = new ArrayList<>();
    final StringBuilder tape = new StringBuilder();
    PlainCustom custom = new PlainCustom("");
    int customs;
    int faultPlace = -1;
    int today;

    static boolean in(int n, int a, int b) {
        return a <= n && n <= b;
    }

    static boolean cell(int c) {
        return in(c, 0, 239);
    }

    static boolean beside(int a, int b) {
        if (a / 48 != b / 48) {
            return false;
        }
        int dx = Math.abs(a % 8 - b % 8);
        int dy = Math.abs(a / 8 % 6 - b / 8 % 6);
        return dx + dy == 1;
    }

    int doorBetween(int a, int b) {
        return doors.getOrDefault(240 * Math.min(a, b) + Math.max(a, b), 0);
    }

    Room roomOf(int c, int day, int known) {
        Room best = null;
        for (int d = day; d >= 0 && best == null; d--) {
            for (Note n : notes) {
                boolean isKnown = n.told <= known && (n.undone[0] < 0 || n.undone[0] > known);
                if (n.cell == c && n.room.from == d && isKnown) {
                    best = n.room;
                }
            }
        }
        return best == null ? NOTHING : best;
    }

    Room[] block(int day, int known) {
        Room[] rooms = new Room[240];
        Set<Integer> told = new HashSet<>();
        for (Note n : notes) {
            told.add(n.cell);
        }
        for (int c = 0; c < 240; c++) {
            rooms[c] = told.contains(c) ? roomOf(c, day, known) : NOTHING;
        }
        return rooms;
    }

    Room[] now() {
        return block(today, today);
    }

    boolean step(Room[] rooms, int a, int b) {
        int ka = rooms[a].kind;
        int kb = rooms[b].kind;
        if (ka == 0 || ka == 7 || kb == 0 || kb == 7) {
            return false;
        }
        if (beside(a, b)) {
            return doorBetween(a, b) == 1 || ka == 3 && kb == 3;
        }
        return Math.abs(a - b) == 48 && ka == 5 && kb == 5;
    }

    static List<Integer> near(int c) {
        List<Integer> all = new ArrayList<>();
        for (int d : new int[] {-48, -8, -1, 1, 8, 48}) {
            int o = c + d;
            if (cell(o) && (Math.abs(d) == 48 || beside(c, o))) {
                all.add(o);
            }
        }
        return all;
    }

    static boolean exit(Room[] rooms, int c) {
        int x = c % 8;
        int y = c / 8;
        return c < 48 && rooms[c].kind == 4 && (x == 0 || x == 7 || y == 0 || y == 5);
    }

    int[] distances(Room[] rooms, int from) {
        int[] dist = new int[240];
        Arrays.fill(dist, -1);
        if (rooms[from].kind == 0 || rooms[from].kind == 7) {
            return dist;
        }
        ArrayDeque<Integer> queue = new ArrayDeque<>();
        queue.add(from);
        dist[from] = 0;
        while (!queue.isEmpty()) {
            int c = queue.poll();
            for (int o : near(c)) {
                if (dist[o] < 0 && step(rooms, c, o)) {
                    dist[o] = dist[c] + 1;
                    queue.add(o);
                }
            }
        }
        return dist;
    }

    int outOf(Room[] rooms, int from) {
        int best = -1;
        int[] dist = distances(rooms, from);
        for (int c = 0; c < 48; c++) {
            if (exit(rooms, c) && dist[c] >= 0 && (best < 0 || dist[c] < best)) {
                best = dist[c];
            }
        }
        return best;
    }

    int day(int d) {
        if (d > 9999 || d <= today) {
            return 0;
        }
        today = d;
        return 1;
    }

    int note(int c, int kind, int owner, int people, int from) {
        boolean fits = cell(c) && in(kind, 0, 7) && in(owner, -1, 39) && in(people, 0, 9) && in(from, 0, today)
                && (people == 0 || kind != 0 && kind != 7);
        if (!fits || notes.size() == 300) {
            return -1;
        }
        notes.add(new Note(c, new Room(kind, owner, people, from), today, new int[] {-1}));
        return notes.size() - 1;
    }

    int undo(int n) {
        if (!in(n, 0, notes.size() - 1) || notes.get(n).undone[0] >= 0) {
            return 0;
        }
        notes.get(n).undone[0] = today;
        return 1;
    }

    int state(int c, int day, int known, int what) {
        if (!cell(c) || !in(day, 0, 9999) || !in(known, 0, 9999) || !in(what, 0, 3)) {
            return -2;
        }
        Room r = roomOf(c, day, known);
        return new int[] {r.kind, r.owner, r.people, r.from}[what];
    }

    int door(int a, int b, int how) {
        if (!cell(a) || !cell(b) || !in(how, 0, 2) || !beside(a, b)) {
            return 0;
        }
        int key = 240 * Math.min(a, b) + Math.max(a, b);
        if (how == 0) {
            doors.remove(key);
        } else {
            doors.put(key, how);
        }
        return 1;
    }

    int way(int from, int to, int day, int known) {
        if (!cell(from) || !cell(to) || !in(day, 0, 9999) || !in(known, 0, 9999)) {
            return -1;
        }
        return distances(block(day, known), from)[to];
    }

    int bar(int from, int to) {
        if (!cell(from) || !cell(to) || distances(now(), from)[to] >= 0) {
            return -1;
        }
        for (int key : new ArrayList<>(doors.keySet())) {
            if (doors.get(key) == 2) {
                doors.put(key, 1);
                boolean opens = distances(now(), from)[to] >= 0;
                doors.put(key, 2);
                if (opens) {
                    return key;
                }
            }
        }
        return -1;
    }

    int out(int c) {
        return cell(c) ? outOf(now(), c) : -1;
    }

    int cutOff(int c) {
        if (!cell(c)) {
            return -1;
        }
        Room[] before = now();
        Room[] after = now();
        after[c] = NOTHING;
        int sum = 0;
        for (int o = 0; o < 240; o++) {
            if (o != c && before[o].people > 0 && outOf(before, o) >= 0 && outOf(after, o) < 0) {
                sum += before[o].people;
            }
        }
        return sum;
    }

    int weigh(int kind, int w, int b) {
        if (!in(kind, 1, 7) || !in(w, 0, 9999) || !in(b, 0, 9999)) {
            return 0;
        }
        weight[kind] = w;
        bears[kind] = b;
        return 1;
    }

    static boolean stands(Room[] rooms, int c) {
        return rooms[c].kind != 0 && (c < 48 || rooms[c - 48].kind != 0);
    }

    /** Loads of all cells, and behind them 1 for each that is broken. */
    int[] loadsOf(Room[] rooms) {
        int[] has = new int[240];
        int[] side = new int[240];
        int[] all = new int[480];
        for (int f = 4; f >= 0; f--) {
            for (int c = 48 * f; c < 48 * f + 48; c++) {
                if (rooms[c].kind != 0) {
                    has[c] = weight[rooms[c].kind] + rooms[c].people;
                    if (f < 4 && stands(rooms, c + 48)) {
                        has[c] += has[c + 48] + side[c + 48];
                    }
                }
            }
            for (int c = 48 * f; c < 48 * f + 48; c++) {
                if (rooms[c].kind != 0 && !stands(rooms, c)) {
                    List<Integer> bearers = new ArrayList<>();
                    for (int o = 0; o < 240; o++) {
                        if (beside(c, o) && stands(rooms, o)) {
                            bearers.add(o);
                        }
                    }
                    for (int i = 0; i < bearers.size(); i++) {
                        int more = i < has[c] % bearers.size() ? 1 : 0;
                        side[bearers.get(i)] += has[c] / bearers.size() + more;
                    }
                    if (bearers.isEmpty()) {
                        all[240 + c] = 1;
                    }
                }
            }
        }
        for (int c = 0; c < 240; c++) {
            all[c] = has[c] + side[c];
            if (rooms[c].kind != 0 && all[c] > bears[rooms[c].kind]) {
                all[240 + c] = 1;
            }
        }
        return all;
    }

    int load(int c) {
        return cell(c) ? loadsOf(now())[c] : -1;
    }

    static int nth(List<Integer> list, int k) {
        return in(k, 0, list.size() - 1) ? list.get(k) : -1;
    }

    List<Integer> brokenCells(Room[] rooms) {
        int[] all = loadsOf(rooms);
        List<Integer> list = new ArrayList<>();
        for (int c = 0; c < 240; c++) {
            if (all[240 + c] == 1) {
                list.add(c);
            }
        }
        return list;
    }

    int broken(int k) {
        return nth(brokenCells(now()), k);
    }

    int adds(int c, int kind, int k) {
        if (!cell(c) || !in(kind, 1, 7)) {
            return -1;
        }
        Room[] rooms = now();
        rooms[c] = new Room(kind, -1, 0, 0);
        List<Integer> list = brokenCells(rooms);
        list.removeAll(brokenCells(now()));
        return nth(list, k);
    }

    int feed(int... numbers) {
        if (tape.length() + 20 > 500) {
            return -1;
        }
        for (int n : numbers) {
            tape.append((char) (n >>> 24)).append((char) (n >>> 16 & 255));
            tape.append((char) (n >>> 8 & 255)).append((char) (n & 255));
        }
        return tape.length();
    }

    int custom(int n) {
        if (n < 0 || n > tape.length()) {
            return -2;
        }
        if (customs == 8) {
            return -3;
        }
        PlainCustom read = new PlainCustom(tape.substring(0, n));
        tape.setLength(0);
        faultPlace = read.fault;
        if (read.fault >= 0) {
            return -1;
        }
        custom = read;
        return customs++;
    }

    int rule(int kind, int what) {
        return in(kind, 1, 6) && in(what, 0, 1) ? custom.amount(kind, what) : -1;
    }

    Map<String, Integer> facts(Room[] rooms, int c) {
        Map<String, Integer> facts = new HashMap<>();
        facts.put("floor", c / 48);
        facts.put("below", c < 48 ? 9 : rooms[c - 48].kind);
        int sky = 1;
        for (int o = c + 48; o < 240; o += 48) {
            sky = rooms[o].kind == 0 ? sky : 0;
        }
        facts.put("sky", sky);
        return facts;
    }

    int may(int c, int kind) {
        if (!cell(c) || !in(kind, 1, 6)) {
            return -1;
        }
        Map<String, Integer> facts = facts(now(), c);
        facts.put("people", 0);
        facts.put("since", 0);
        facts.put("owner", -1);
        return custom.first("may", kind, facts);
    }

    int pay(int c) {
        if (!cell(c)) {
            return -1;
        }
        Room[] rooms = now();
        Map<String, Integer> facts = facts(rooms, c);
        facts.put("people", rooms[c].people);
        facts.put("since", today - rooms[c].from);
        facts.put("owner", rooms[c].owner);
        int first = custom.first("pay", rooms[c].kind, facts);
        return first < 0 ? 0 : Math.max(0, custom.tells(first, facts));
    }

    long paid(int owner) {
        if (!in(owner, 0, 39)) {
            return -1;
        }
        long sum = 0;
        Room[] rooms = now();
        for (int c = 0; c < 240; c++) {
            sum += rooms[c].owner == owner ? pay(c) : 0;
        }
        return sum;
    }

    int wire(int c, int from, int fuse) {
        if (!cell(c) || !in(from, -1, wires.size() - 1) || !in(fuse, 0, 999) || wires.size() == 60) {
            return -1;
        }
        wires.add(new Wire(c, from, fuse));
        return wires.size() - 1;
    }

    int ampsOf(Room[] rooms, int w, Set<Integer> dark) {
        if (dark.contains(w)) {
            return 0;
        }
        int c = wires.get(w).cell;
        int first = 0;
        while (dark.contains(first) || wires.get(first).cell != c) {
            first++;
        }
        int kind = rooms[c].kind;
        int sum = first == w && in(kind, 1, 6) ? custom.amount(kind, 0) : 0;
        for (int o = 0; o < wires.size(); o++) {
            sum += wires.get(o).from == w ? ampsOf(rooms, o, dark) : 0;
        }
        return sum;
    }

    int far(int w) {
        return wires.get(w).from < 0 ? 0 : 1 + far(wires.get(w).from);
    }

    boolean behind(int w, int gone) {
        return w == gone || w >= 0 && behind(wires.get(w).from, gone);
    }

    List<Integer> goneWires(Room[] rooms, Set<Integer> dark) {
        List<Integer> order = new ArrayList<>();
        while (true) {
            int worst = -1;
            for (int w = 0; w < wires.size(); w++) {
                if (!dark.contains(w) && ampsOf(rooms, w, dark) > wires.get(w).fuse
                        && (worst < 0 || far(w) > far(worst))) {
                    worst = w;
                }
            }
            if (worst < 0) {
                return order;
            }
            order.add(worst);
            for (int w = 0; w < wires.size(); w++) {
                if (behind(w, worst)) {
                    dark.add(w);
                }
            }
        }
    }

    int amps(int w, int what) {
        if (!in(w, 0, wires.size() - 1) || !in(what, 0, 3)) {
            return -1;
        }
        Set<Integer> dark = new HashSet<>();
        Room[] rooms = now();
        if (what == 0) {
            return ampsOf(rooms, w, dark);
        }
        List<Integer> order = goneWires(rooms, dark);
        return what == 1 ? ampsOf(rooms, w, dark) : (what == 2 ? order.contains(w) : dark.contains(w)) ? 1 : 0;
    }

    int gone(int k) {
        return nth(goneWires(now(), new HashSet<>()), k);
    }

    int twice(int k) {
        TreeSet<Integer> two = new TreeSet<>();
        for (int a = 0; a < wires.size(); a++) {
            for (int b = 0; b < a; b++) {
                if (wires.get(a).cell == wires.get(b).cell) {
                    two.add(wires.get(a).cell);
                }
            }
        }
        return nth(new ArrayList<>(two), k);
    }

    int supply(int c, int much) {
        if (!cell(c) || !in(much, 0, 99999)) {
            return 0;
        }
        supplies.put(c, much);
        return 1;
    }

    int turn(int tap, int c) {
        if (!cell(tap) || !cell(c) || turns.size() == 40) {
            return -1;
        }
        turns.add(new Pair(tap, c));
        return turns.size();
    }

    int water(int c) {
        if (!cell(c)) {
            return -1;
        }
        Room[] rooms = now();
        int sum = 0;
        for (int tap = 0; tap < 240; tap++) {
            int left = rooms[tap].kind == 6 ? supplies.getOrDefault(tap, 0) : 0;
            for (Pair t : turns) {
                if (t.a == tap) {
                    Room r = rooms[t.b];
                    int want = in(r.kind, 1, 6) ? custom.amount(r.kind, 1) * r.people : 0;
                    int got = Math.min(left, want);
                    left -= got;
                    sum += t.b == c ? got : 0;
                }
            }
        }
        return sum;
    }

    int says(int c, int much) {
        if (!cell(c) || !in(much, 0, 99999)) {
            return 0;
        }
        said.put(c, much);
        return 1;
    }

    int kept(int tap, int span, int what) {
        if (!cell(tap) || !in(span, 0, 9999) || !in(what, 0, 1) || now()[tap].kind != 6) {
            return -1;
        }
        Set<Integer> there = new HashSet<>();
        for (Pair t : turns) {
            if (t.a == tap) {
                there.add(t.b);
            }
        }
        int left = supplies.getOrDefault(tap, 0);
        for (int c : there) {
            int one = said.getOrDefault(c, 0);
            left -= what == 0 ? one + span : Math.max(0, one - span);
        }
        return Math.max(0, left);
    }

    int foul(int c) {
        if (!cell(c) || c < 48 || now()[c].kind != 2) {
            return -1;
        }
        for (int o = c - 48; o >= 0; o -= 48) {
            int kind = now()[o].kind;
            if (kind == 3 || kind == 4 || kind == 6 || o < 48) {
                return o;
            }
        }
        return -1;
    }

    int[] minutes(Room[] rooms, int from) {
        int[] m = new int[240];
        Arrays.fill(m, Integer.MAX_VALUE);
        m[from] = 0;
        boolean changed = true;
        while (changed) {
            changed = false;
            for (int c = 0; c < 240; c++) {
                for (int o : near(c)) {
                    if (m[c] != Integer.MAX_VALUE && rooms[o].kind != 0) {
                        int how = doorBetween(c, o);
                        int t = o - c == 48 ? 3 : c - o == 48 ? 6 : how == 1 ? 2 : how == 2 ? 5 : 9;
                        if (m[c] + t < m[o]) {
                            m[o] = m[c] + t;
                            changed = true;
                        }
                    }
                }
            }
        }
        return m;
    }

    boolean escapes(Room[] rooms, int[] m, int start) {
        Set<Integer> at = new HashSet<>();
        if (m[start] > 0) {
            at.add(start);
        }
        for (int t = 0; t <= 240; t++) {
            Set<Integer> then = new HashSet<>();
            for (int c : at) {
                if (exit(rooms, c)) {
                    return true;
                }
                for (int o : near(c)) {
                    if (step(rooms, c, o) && t + 1 < m[o]) {
                        then.add(o);
                    }
                }
            }
            at = then;
        }
        return false;
    }

    int savedOf(Room[] rooms, int from) {
        int[] m = minutes(rooms, from);
        int sum = 0;
        for (int c = 0; c < 240; c++) {
            sum += rooms[c].people > 0 && escapes(rooms, m, c) ? rooms[c].people : 0;
        }
        return sum;
    }

    int fire(int from, int c) {
        if (!cell(from) || !cell(c) || now()[from].kind == 0) {
            return -1;
        }
        int m = minutes(now(), from)[c];
        return m == Integer.MAX_VALUE ? -1 : m;
    }

    int saved(int from) {
        return cell(from) && now()[from].kind != 0 ? savedOf(now(), from) : -1;
    }

    int wall(int from) {
        if (!cell(from) || now()[from].kind == 0) {
            return -1;
        }
        Room[] rooms = now();
        int most = savedOf(rooms, from);
        int best = -1;
        for (int a = 0; a < 240; a++) {
            for (int b : new int[] {a + 1, a + 8}) {
                if (cell(b) && beside(a, b) && doorBetween(a, b) == 0 && rooms[a].kind % 7 != 0
                        && rooms[b].kind % 7 != 0) {
                    door(a, b, 1);
                    int saves = savedOf(rooms, from);
                    door(a, b, 0);
                    if (saves > most) {
                        most = saves;
                        best = 240 * a + b;
                    }
                }
            }
        }
        return best;
    }

    int wish(int c, int kind) {
        if (!cell(c) || !in(kind, 1, 6) || wishes.size() == 8) {
            return -1;
        }
        wishes.add(new Pair(c, kind));
        return wishes.size();
    }

    boolean meets(int bits) {
        Room[] rooms = now();
        Room[] built = now();
        for (int i = 0; i < wishes.size(); i++) {
            if ((bits >> i & 1) == 1) {
                Pair w = wishes.get(i);
                if (rooms[w.a].kind != 0 || built[w.a].kind != 0 || may(w.a, w.b) < 0) {
                    return false;
                }
                built[w.a] = new Room(w.b, -1, 0, 0);
            }
        }
        return brokenCells(rooms).containsAll(brokenCells(built));
    }

    int met(int what) {
        if (!in(what, 0, 1)) {
            return -1;
        }
        int best = 0;
        for (int bits = 0; bits < 1 << wishes.size(); bits++) {
            if (Integer.bitCount(bits) > Integer.bitCount(best) && meets(bits)) {
                best = bits;
            }
        }
        return what == 0 ? Integer.bitCount(best) : best;
    }

    int clear() {
        int before = wishes.size();
        wishes.clear();
        return before;
    }

    boolean canGo(Room[] rooms, int c) {
        if (rooms[c].kind == 0 || c + 48 < 240 && rooms[c + 48].kind != 0) {
            return false;
        }
        Room[] after = rooms.clone();
        after[c] = NOTHING;
        for (int o = 0; o < 240; o++) {
            if (after[o].people > 0 && outOf(rooms, o) >= 0 && outOf(after, o) < 0) {
                return false;
            }
        }
        return true;
    }

    List<Integer> going() {
        Room[] rooms = now();
        List<Integer> order = new ArrayList<>();
        int c = 0;
        while (c < 240) {
            if (canGo(rooms, c)) {
                order.add(c);
                rooms[c] = NOTHING;
                c = 0;
            } else {
                c++;
            }
        }
        return order;
    }

    int goes(int k) {
        return nth(going(), k);
    }

    int count(int what) {
        Room[] rooms = now();
        int people = 0;
        int free = 0;
        for (int c = 0; c < 240; c++) {
            people += rooms[c].people;
            free += what == 4 && rooms[c].people > 0 && outOf(rooms, c) >= 0 ? rooms[c].people : 0;
        }
        switch (what) {
            case 0: return today;
            case 1: return notes.size();
            case 2: return doors.size();
            case 3: return people;
            case 4: return free;
            case 5: return customs;
            case 6: return wires.size();
            case 7: return turns.size();
            case 8: return wishes.size();
            case 9: return tape.length();
            case 10: return brokenCells(rooms).size();
            case 11: return going().size();
            default: return -1;
        }
    }
}
