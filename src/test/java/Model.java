import java.util.ArrayList;
import java.util.Comparator;
import java.util.HashSet;
import java.util.List;
import java.util.Optional;
import java.util.Set;

/**
 * The document once more, in another way and as plainly as lists allow: what SpiderLoom answers is held against it.
 * A call is a name with its arguments.
 */
final class Model {
    private static final int NONE = -1, BAD = -2, NOT = -3, FULL = -4;

    private record Peg(int number, int x, int y) {
        int far(Peg p) {
            return Math.abs(x - p.x) + Math.abs(y - p.y);
        }
    }

    private static final class Row {
        int form;
        int[] items;
    }

    private final StringBuilder text = new StringBuilder();
    private Set<Integer> hidden = new HashSet<>();
    private int thread = 99, hunger = 0, reach = 1, finding = 0;
    private final List<int[]> seen = new ArrayList<>();
    private final Row[] rows = new Row[4];

    // ---- the text

    /** The pegs up to the fault; the fault's place is written to where[0]. */
    private List<Peg> parse(int[] where) {
        List<Peg> pegs = new ArrayList<>();
        where[0] = NONE;
        if (text.length() == 0) {
            return pegs;
        }
        int at = 0;
        while (true) {
            for (int k = 0; k < 2; k++) {
                if (pegs.size() == 10 || at == text.length() || !Character.isDigit(text.charAt(at))
                    || text.charAt(at) > '9') {
                    where[0] = at;
                    return pegs;
                }
                at++;
            }
            Peg now = new Peg(pegs.size(), text.charAt(at - 2) - '0', text.charAt(at - 1) - '0');
            for (Peg p : pegs) {
                if (p.far(now) == 0) {
                    where[0] = at - 1;
                    return pegs;
                }
            }
            pegs.add(now);
            if (at == text.length()) {
                return pegs;
            }
            if (text.charAt(at) != ';') {
                where[0] = at;
                return pegs;
            }
            at++;
        }
    }

    private int place() {
        int[] where = {0};
        parse(where);
        return where[0];
    }

    private List<Peg> pegs() {
        int[] where = {0};
        List<Peg> all = parse(where);
        return where[0] == NONE ? all : List.of();
    }

    // ---- webs

    private static int rowPlace(Peg p) {
        return 100 * p.y + p.x;
    }

    private static Optional<Peg> next(int law, Peg from, List<Peg> free) {
        Comparator<Peg> by = switch (law) {
            case 0 -> Comparator.comparing(p -> p.far(from));
            case 1 -> Comparator.comparing((Peg p) -> p.far(from)).reversed();
            case 2 -> Comparator.comparing((Peg p) -> p.number < from.number);
            default -> Comparator.comparing((Peg p) -> rowPlace(p) < rowPlace(from)).thenComparing(Model::rowPlace);
        };
        return free.stream().min(by.thenComparing(p -> p.number));
    }

    private static final class Walker {
        final int law;
        final List<Peg> way = new ArrayList<>();
        int left;

        Walker(Peg from, int law, int thread) {
            this.law = law;
            way.add(from);
            left = thread;
        }

        Peg here() {
            return way.get(way.size() - 1);
        }

        boolean step(List<Peg> free, int hunger) {
            Optional<Peg> to = next(law, here(), free);
            if (to.isEmpty() || to.get().far(here()) + hunger > left) {
                return false;
            }
            left -= to.get().far(here()) + hunger;
            free.remove(to.get());
            way.add(to.get());
            return true;
        }

        int length() {
            int sum = 0;
            for (int i = 1; i < way.size(); i++) {
                sum += way.get(i).far(way.get(i - 1));
            }
            return sum;
        }

        List<Integer> numbers() {
            return way.stream().map(Peg::number).toList();
        }
    }

    private static List<Peg> without(List<Peg> pegs, Set<Integer> out) {
        return new ArrayList<>(pegs.stream().filter(p -> !out.contains(p.number)).toList());
    }

    private Walker walk(List<Peg> pegs, Set<Integer> out, int peg, int law) {
        List<Peg> free = without(pegs, out);
        free.remove(pegs.get(peg));
        Walker w = new Walker(pegs.get(peg), law, thread);
        while (w.step(free, hunger)) { }
        return w;
    }

    private Walker walk(int peg, int law) {
        return walk(pegs(), hidden, peg, law);
    }

    // ---- crossings: by solving for the point, in whole numbers

    private static boolean on(long px, long py, Peg a, Peg b) {
        return (b.x - a.x) * (py - a.y) == (b.y - a.y) * (px - a.x)
            && (px - a.x) * (px - b.x) <= 0 && (py - a.y) * (py - b.y) <= 0;
    }

    private static boolean common(Peg a, Peg b, Peg c, Peg d) {
        long det = (long) (b.x - a.x) * (d.y - c.y) - (long) (b.y - a.y) * (d.x - c.x);
        if (det == 0) {
            return on(a.x, a.y, c, d) || on(b.x, b.y, c, d) || on(c.x, c.y, a, b) || on(d.x, d.y, a, b);
        }
        long t = (long) (c.x - a.x) * (d.y - c.y) - (long) (c.y - a.y) * (d.x - c.x);
        long u = (long) (c.x - a.x) * (b.y - a.y) - (long) (c.y - a.y) * (b.x - a.x);
        if (det < 0) {
            det = -det;
            t = -t;
            u = -u;
        }
        return t >= 0 && t <= det && u >= 0 && u <= det;
    }

    private static int crossings(List<Peg> way) {
        int n = 0;
        for (int i = 1; i < way.size(); i++) {
            for (int j = i + 2; j < way.size(); j++) {
                if (common(way.get(i - 1), way.get(i), way.get(j - 1), way.get(j))) {
                    n++;
                }
            }
        }
        return n;
    }

    // ---- calls

    private static boolean in(int v, int least, int most) {
        return v >= least && v <= most;
    }

    private int find(int number) {
        finding = number;
        return -10 - number;
    }

    private boolean isPeg(int p) {
        return in(p, 0, pegs().size() - 1);
    }

    long call(String name, int... a) {
        switch (name) {
            case "type": case "wipe": case "undo": case "fault": case "peg": case "hide": case "set": case "read":
            case "far":
                return callPegs(name, a);
            case "web": case "length": case "crosses": case "hangs": case "pieces": case "turned": case "more":
                return callWebs(name, a);
            case "begin": case "last": case "two":
                return callWhich(name, a);
            case "seen": case "forget": case "fits": case "tells": case "flies": case "dew":
                return callSeen(name, a);
            case "digest":
                return digest();
            default:
                return callSheets(name, a);
        }
    }

    private int callPegs(String name, int[] a) {
        switch (name) {
            case "type":
                if (!in(a[0], 0, 255)) return BAD;
                if (text.length() == 40) return FULL;
                text.append((char) a[0]);
                return text.length();
            case "wipe": {
                int n = text.length();
                text.setLength(0);
                return n;
            }
            case "undo":
                if (text.length() == 0) return NOT;
                text.setLength(text.length() - 1);
                return text.length();
            case "fault":
                return place();
            case "peg":
                if (!isPeg(a[0]) || !in(a[1], 0, 2)) return BAD;
                return a[1] == 0 ? pegs().get(a[0]).x : a[1] == 1 ? pegs().get(a[0]).y : hidden.contains(a[0]) ? 1 : 0;
            case "hide":
                if (!in(a[0], 0, 9) || !in(a[1], 0, 1)) return BAD;
                return (a[1] == 1 ? !hidden.add(a[0]) : hidden.remove(a[0])) ? 1 : 0;
            case "set":
                return callSet(a[0], a[1]);
            case "read": {
                if (!in(a[0], 0, 3)) return BAD;
                if (rows[a[0]] == null) return find(1);
                int n = 0;
                for (int v : rows[a[0]].items) {
                    if (n == 10 || !in(v, 0, 1)) break;
                    if (v == 1) hidden.add(n); else hidden.remove(n);
                    n++;
                }
                return n;
            }
            default:
                return isPeg(a[0]) && isPeg(a[1]) ? pegs().get(a[0]).far(pegs().get(a[1])) : BAD;
        }
    }

    private int callSet(int what, int v) {
        if (!in(what, 0, 2) || !in(v, 0, new int[] {200, 9, 9}[what])) return BAD;
        int was = new int[] {thread, hunger, reach}[what];
        if (what == 0) thread = v;
        if (what == 1) hunger = v;
        if (what == 2) reach = v;
        return was;
    }

    private int callWebs(String name, int[] a) {
        boolean well = isPeg(a[0]) && in(a[1], 0, 3);
        if (name.equals("web")) well &= in(a[2], 0, 9);
        if (name.equals("length")) well &= in(a[2], 0, 2);
        if (name.equals("hangs") || name.equals("pieces")) well &= isPeg(a[2]);
        if (name.equals("more")) well &= in(a[2], 0, 9) && in(a[3], 0, 9);
        if (!well) return BAD;
        if (hidden.contains(a[0])) return NOT;
        Walker w = walk(a[0], a[1]);
        List<Integer> row = w.numbers();
        switch (name) {
            case "web":
                return a[2] < row.size() ? row.get(a[2]) : NONE;
            case "length":
                return a[2] == 0 ? w.length() : a[2] == 1 ? row.size() : thread - w.length() - hunger * (row.size() - 1);
            case "crosses":
                return crossings(w.way);
            case "hangs": {
                int n = 0;
                for (int i = 1; i < row.size(); i++) {
                    if (row.get(i) == a[2] || row.get(i - 1) == a[2]) n++;
                }
                return n;
            }
            case "pieces": {
                int n = 0;
                boolean within = false;
                for (int p : row) {
                    if (p != a[2] && !within) n++;
                    within = p != a[2];
                }
                return n;
            }
            case "turned": {
                List<Peg> turned = pegs().stream().map(p -> new Peg(p.number, 9 - p.y, p.x)).toList();
                return walk(turned, hidden, a[0], a[1]).numbers().equals(row) ? 1 : 0;
            }
            default: {
                List<Peg> more = new ArrayList<>(pegs());
                if (more.size() == 10 || more.stream().anyMatch(p -> p.x == a[2] && p.y == a[3])) return NOT;
                more.add(new Peg(more.size(), a[2], a[3]));
                return walk(more, hidden, a[0], a[1]).length();
            }
        }
    }

    private int callWhich(String name, int[] a) {
        if (name.equals("begin")) {
            if (!in(a[0], 0, 3)) return BAD;
            return without(pegs(), hidden).stream().map(p -> walk(p.number, a[0]))
                .min(Comparator.comparing((Walker w) -> -w.way.size()).thenComparing(Walker::length)
                    .thenComparing(w -> w.way.get(0).number))
                .map(w -> w.way.get(0).number).orElse(NONE);
        }
        if (name.equals("last")) {
            if (!isPeg(a[0]) || !in(a[1], 0, 3) || !isPeg(a[2]) || !in(a[3], 0, 1) || a[0] == a[2]) return BAD;
            if (hidden.contains(a[0]) || hidden.contains(a[2])) return NOT;
            for (int many = 0; many <= 10; many++) {
                for (int bits = 0; bits < 1024; bits++) {
                    if (Integer.bitCount(bits) == many && ends(bits, a)) return a[3] == 0 ? many : bits;
                }
            }
            return NONE;
        }
        if (!isPeg(a[0]) || !in(a[1], 0, 3) || !isPeg(a[2]) || !in(a[3], 0, 3) || !in(a[4], 0, 2) || a[0] == a[2]) {
            return BAD;
        }
        if (hidden.contains(a[0]) || hidden.contains(a[2])) return NOT;
        List<Peg> free = without(pegs(), hidden);
        Walker first = new Walker(pegs().get(a[0]), a[1], thread);
        Walker second = new Walker(pegs().get(a[2]), a[3], thread);
        free.remove(first.here());
        free.remove(second.here());
        int lastStep = NONE;
        boolean went = true;
        while (went) {
            went = false;
            for (Walker w : List.of(first, second)) {
                if (w.step(free, hunger)) {
                    went = true;
                    lastStep = w.here().number;
                }
            }
        }
        return a[4] == 0 ? first.way.size() : a[4] == 1 ? second.way.size() : lastStep;
    }

    private boolean ends(int bits, int[] a) {
        Set<Integer> out = new HashSet<>(hidden);
        for (int p = 0; p < 10; p++) {
            if ((bits >> p & 1) == 1) {
                if (!isPeg(p) || hidden.contains(p) || p == a[0] || p == a[2]) return false;
                out.add(p);
            }
        }
        return walk(pegs(), out, a[0], a[1]).here().number == a[2];
    }

    private int fits() {
        int bits = 0;
        for (int law = 0; law < 4; law++) {
            boolean all = true;
            for (int[] s : seen) {
                if (!isPeg(s[0]) || hidden.contains(s[0])) {
                    all = false;
                } else {
                    List<Integer> row = walk(s[0], law).numbers();
                    all &= row.size() > s[1] && row.get(s[1]) == s[2];
                }
            }
            if (all) bits |= 1 << law;
        }
        return bits;
    }

    private int tells() {
        int laws = fits();
        int best = NONE;
        int most = -1;
        for (Peg p : without(pegs(), hidden)) {
            Set<List<Integer>> webs = new HashSet<>();
            for (int law = 0; law < 4; law++) {
                if ((laws >> law & 1) == 1) webs.add(walk(p.number, law).numbers());
            }
            if (webs.size() > most) {
                most = webs.size();
                best = p.number;
            }
        }
        return best;
    }

    private int callSeen(String name, int[] a) {
        switch (name) {
            case "seen":
                if (!in(a[0], 0, 9) || !in(a[1], 1, 9) || !in(a[2], 0, 9)) return BAD;
                if (seen.size() == 8) return FULL;
                seen.add(a.clone());
                return seen.size();
            case "forget": {
                int n = seen.size();
                seen.clear();
                return n;
            }
            case "fits":
                return fits();
            case "tells":
                return tells();
            case "flies": {
                if (!isPeg(a[0]) || !in(a[1], 0, 3) || !in(a[3], 0, 99)) return BAD;
                if (hidden.contains(a[0])) return NOT;
                Walker w = walk(a[0], a[1]);
                long seed = a[2] & 0xFFFFFFFFL;
                int n = 0;
                for (int k = 0; k < a[3]; k++) {
                    int[] xy = new int[2];
                    for (int c = 0; c < 2; c++) {
                        seed = (1103515245L * seed + 12345) % 4294967296L;
                        xy[c] = (int) (seed / 65536 % 10);
                    }
                    Peg fly = new Peg(NONE, xy[0], xy[1]);
                    if (w.way.stream().anyMatch(p -> p.far(fly) <= reach)) n++;
                }
                return n;
            }
            default: {
                if (!isPeg(a[0]) || !in(a[1], 0, 3) || !in(a[2], 0, 3)) return BAD;
                if (rows[a[2]] == null) return find(1);
                if (hidden.contains(a[0])) return NOT;
                List<Peg> way = walk(a[0], a[1]).way;
                int[] drops = rows[a[2]].items;
                for (int i = 0; i < drops.length && i < way.size() - 1; i++) {
                    if (drops[i] > way.get(i).far(way.get(i + 1))) return i;
                }
                return NONE;
            }
        }
    }

    private static int cut(int form, int v) {
        return form == 0 ? (byte) v : form == 1 ? (short) v : v;
    }

    private int item(int s, int form, int i) {
        if (!in(s, 0, 3) || !in(form, 0, 2)) return BAD;
        if (rows[s] == null) return find(1);
        if (rows[s].form != form) return find(3);
        return in(i, 0, rows[s].items.length - 1) ? 1 : find(2);
    }

    private int callSheets(String name, int[] a) {
        switch (name) {
            case "sheet":
                if (!in(a[0], 0, 3) || !in(a[1], 0, 2) || a[2] > 48) return BAD;
                if (a[2] < 0) return find(5);
                rows[a[0]] = new Row();
                rows[a[0]].form = a[1];
                rows[a[0]].items = new int[a[2]];
                return a[2];
            case "lose": {
                if (!in(a[0], 0, 3)) return BAD;
                if (rows[a[0]] == null) return find(1);
                int n = rows[a[0]].items.length;
                rows[a[0]] = null;
                return n;
            }
            case "put": {
                int answer = item(a[0], a[1], a[2]);
                if (answer == 1) rows[a[0]].items[a[2]] = cut(a[1], a[3]);
                return answer;
            }
            case "get":
                return item(a[0], a[1], a[2]) == 1 ? rows[a[0]].items[a[2]] : Integer.MIN_VALUE;
            case "copy": {
                if (!in(a[0], 0, 3) || !in(a[2], 0, 3)) return BAD;
                Row s = rows[a[0]];
                Row t = rows[a[2]];
                if (s == null || t == null) return find(1);
                if (s.form != t.form) return find(4);
                if (a[1] < 0 || a[3] < 0 || a[4] < 0 || (long) a[1] + a[4] > s.items.length
                    || (long) a[3] + a[4] > t.items.length) return find(2);
                int[] were = s.items.clone();
                for (int k = 0; k < a[4]; k++) t.items[a[3] + k] = were[a[1] + k];
                return 1;
            }
            case "write": {
                if (!isPeg(a[0]) || !in(a[1], 0, 3) || !in(a[2], 0, 3)) return BAD;
                if (rows[a[2]] == null) return find(1);
                if (hidden.contains(a[0])) return NOT;
                int n = 0;
                for (int p : walk(a[0], a[1]).numbers()) {
                    if (n < rows[a[2]].items.length) rows[a[2]].items[n++] = p;
                }
                return n;
            }
            case "count":
                return count(a[0]);
            default:
                throw new IllegalStateException(name);
        }
    }

    private int count(int what) {
        List<Peg> pegs = pegs();
        switch (what) {
            case 0: return pegs.size();
            case 1: return text.length();
            case 2: return pegs.size() - without(pegs, hidden).size();
            case 3: return thread;
            case 4: return hunger;
            case 5: return reach;
            case 6: return seen.size();
            case 7: {
                int twice = 0;
                for (Peg p : pegs) for (Peg q : pegs) twice += p.far(q);
                return twice / 2;
            }
            case 8: return finding;
            default: return BAD;
        }
    }

    private long digest() {
        List<Long> told = new ArrayList<>();
        for (int what = 0; what <= 7; what++) told.add(call("count", what));
        told.add(call("fault"));
        for (int p = 0; p < pegs().size(); p++) {
            for (int law = 0; law < 4; law++) {
                for (int what = 0; what < 3; what++) told.add(call("length", p, law, what));
                told.add(call("crosses", p, law));
                told.add(call("turned", p, law));
                told.add(call("web", p, law, 1));
                told.add(call("hangs", p, law, 0));
                told.add(call("pieces", p, law, 1));
                told.add(call("flies", p, law, 7, 9));
            }
        }
        for (int law = 0; law < 4; law++) told.add(call("begin", law));
        for (int what = 0; what < 2; what++) told.add(call("last", 0, 0, 1, what));
        for (int what = 0; what < 3; what++) told.add(call("two", 0, 0, 1, 1, what));
        told.add(call("more", 0, 0, 5, 5));
        told.add(call("fits"));
        told.add(call("tells"));
        long h = 17;
        for (long v : told) h = 31 * h + v;
        return h;
    }
}
