import java.util.ArrayList;
import java.util.HashSet;
import java.util.List;
import java.util.Set;

/**
 * The document once more, written another way and without regard to LANGUAGE.md:
 * KINDS are classes, TEXTS are split at their signs, ways are closed over all
 * pairs, WALKS go day by day. ModelTest holds NineWells against it.
 */
final class Model {
    static final int LOW = -1000000000;
    static final int BEYOND = LOW - 1, NONE = LOW - 2, STATE = LOW - 3, FULL = LOW - 4, KIND = LOW - 5;

    static final class Hole implements Cloneable {
        int to = -1, days = 1, toll, fishes;

        Hole copy() {
            Hole h = new Hole();
            h.to = to; h.days = days; h.toll = toll; h.fishes = fishes;
            return h;
        }
    }

    static class Thing {
        Scene scene;
        List<Integer> trace;
        int n, m, state = 2, well = -1, left, spent;

        int kind() { return 0; }
        int lasts(Hole g) { return g.days; }
        boolean stays() { return false; }
        int begin(int body) { trace.add(body); return 0; }
        int sinks(int x) { begin(10); return x + n; }
        int goes(int x) { begin(11); return sinks(x) * 2; }
        int waits(int x) { begin(12); return x - m; }
        int tells(int x) { begin(13); return goes(x) ^ waits(x); }

        int othersAt(int state, int well) {
            int c = 0;
            for (Thing t : scene.things) if (t != this && t.state == state && t.well == well) c++;
            return c;
        }

        int lastsNow() {
            Hole g = scene.holes.get(well);
            int slow = scene.slows == null ? 0 : Model.worth(scene.slows, "wktm", well, kind(), scene.today, m);
            return lasts(g) + (slow < 0 ? 0 : slow > 30 ? 30 : slow);
        }
    }

    static class Light extends Thing {
        int kind() { return 1; }
        int lasts(Hole g) { int l = super.lasts(g) - 1; return l < 1 ? 1 : l; }
        int goes(int x) { begin(20); return super.goes(x) - waits(1); }
    }

    static class Heavy extends Thing {
        int kind() { return 2; }
        int lasts(Hole g) { return super.lasts(g) + m; }
        boolean stays() { return m > 3 ? false : othersAt(0, well) < m; }
        int sinks(int x) { begin(30); return super.sinks(x) * 3; }
    }

    static class Cold extends Thing {
        int kind() { return 3; }
        int lasts(Hole g) { return 2 * super.lasts(g); }
        boolean stays() { int mo = scene.month(); return mo == 0 || mo == 1 || mo == 11; }
        int waits(int x) { begin(40); return -super.waits(x); }
    }

    static class Cork extends Light {
        int kind() { return 4; }
        int goes(int x) { begin(50); return super.goes(x + 1); }
    }

    static class Pair extends Thing {
        int kind() { return 5; }
        int lasts(Hole g) { return super.lasts(g) + othersAt(1, g.to); }
        int tells(int x) { begin(60); return super.tells(x) - sinks(2); }
    }

    static class Sunk extends Heavy {
        int kind() { return 6; }
        int lasts(Hole g) { int mo = scene.month(); return super.lasts(g) + (mo == 5 || mo == 6 || mo == 7 ? 5 : 0); }
        boolean stays() { return super.stays() || scene.today % 7 == 0; }
        int sinks(int x) { begin(70); return super.sinks(x) ^ n; }
        int tells(int x) { begin(71); return goes(x) - super.tells(x); }
    }

    static Thing make(int kind) {
        switch (kind) {
            case 0: return new Thing();
            case 1: return new Light();
            case 2: return new Heavy();
            case 3: return new Cold();
            case 4: return new Cork();
            case 5: return new Pair();
            default: return new Sunk();
        }
    }

    /** All that an image keeps. */
    static final class Scene {
        int today, z = 1;
        String slows, takes;
        List<Hole> holes = new ArrayList<>();
        List<Thing> things = new ArrayList<>();
        List<int[]> finds = new ArrayList<>();
        List<Integer> tape = new ArrayList<>();
        List<Integer> waiting = new ArrayList<>();

        int month() { return (today / 30) % 12; }

        Scene copy() {
            Scene s = new Scene();
            s.today = today; s.z = z; s.slows = slows; s.takes = takes;
            for (Hole h : holes) s.holes.add(h.copy());
            for (Thing t : things) {
                Thing c = make(t.kind());
                c.scene = s; c.trace = t.trace; c.n = t.n; c.m = t.m; c.state = t.state; c.well = t.well; c.left = t.left; c.spent = t.spent;
                s.things.add(c);
            }
            for (int[] f : finds) s.finds.add(f.clone());
            s.tape.addAll(tape);
            s.waiting.addAll(waiting);
            return s;
        }

        void day() {
            List<Thing> were = new ArrayList<>();
            for (Thing t : things) if (t.state == 1) were.add(t);
            for (Thing t : things) {
                if (t.state != 0) continue;
                Hole g = holes.get(t.well);
                if (g.to == -1) continue;
                if (t.stays()) continue;
                int l = t.lastsNow();
                t.state = 1; t.well = g.to; t.left = l;
            }
            for (Thing t : were) {
                t.left--;
                if (t.left > 0) continue;
                Hole h = holes.get(t.well);
                t.state = 0;
                t.spent = Math.min(999999, t.spent + h.toll);
                if (h.fishes == 1) {
                    int takesIt = takes == null ? 1 : worth(takes, "wkts", t.well, t.kind(), today, t.spent);
                    if (takesIt != 0) t.state = 2;
                }
            }
            today++;
        }

        Scene ahead(int n) {
            Scene s = copy();
            for (int i = 0; i < n; i++) s.day();
            return s;
        }

        int draw() { z = z * 1103515245 + 12345; return z >>> 8; }

        /** Day by day: -1 below, -2 nowhere. */
        int walk(int from, int day) {
            int at = from, still = 0;
            boolean below = false;
            for (int d = 0; d < day; d++) {
                if (at == -2) return -2;
                if (!below) {
                    Hole g = holes.get(at);
                    if (g.to == -1) { at = -2; continue; }
                    below = true; still = g.days; at = g.to;
                }
                still--;
                if (still == 0) below = false;
            }
            return at == -2 ? -2 : below ? -1 : at;
        }
    }

    // ---- texts, by spans

    static boolean isT(String s, int open) { return isRun(s, "|", open, 0); }
    static boolean isA(String s, int open) { return isRun(s, "&", open, 1); }
    static boolean isS(String s, int open) { return isRun(s, "+-", open, 3); }
    static boolean isP(String s, int open) { return isRun(s, "*/%", open, 4); }

    static boolean isB(String s, int open) {
        List<Integer> cuts = cuts(s, "<=>");
        if (cuts.isEmpty()) return isS(s, open);
        if (cuts.size() > 1) return false;
        int c = cuts.get(0);
        return isS(s.substring(0, c), open) && isS(s.substring(c + 1), open);
    }

    static boolean isPart(String s, int open, int level) {
        switch (level) {
            case 1: return isA(s, open);
            case 2: return isB(s, open);
            case 4: return isP(s, open);
            default: return isQ(s, open);
        }
    }

    static boolean isRun(String s, String signs, int open, int level) {
        int from = 0;
        for (int c : cuts(s, signs)) {
            if (!isPart(s.substring(from, c), open, level + 1)) return false;
            from = c + 1;
        }
        return isPart(s.substring(from), open, level + 1);
    }

    static boolean isQ(String s, int open) {
        if (s.matches("[0-9]{1,4}") || s.matches("[wktms]")) return true;
        if (s.startsWith("!")) return open < 5 && isQ(s.substring(1), open + 1);
        return s.length() > 2 && s.startsWith("(") && s.endsWith(")") && open < 5 && isT(s.substring(1, s.length() - 1), open + 1);
    }

    /** Where signs stand outside all parentheses. */
    static List<Integer> cuts(String s, String signs) {
        List<Integer> out = new ArrayList<>();
        int deep = 0;
        for (int i = 0; i < s.length(); i++) {
            char c = s.charAt(i);
            if (c == '(') deep++;
            else if (c == ')') deep--;
            else if (deep == 0 && signs.indexOf(c) >= 0) out.add(i);
        }
        return out;
    }

    static boolean goesOn(String s) {
        int deep = 0;
        for (int i = 0; i < s.length(); i++) {
            if (s.charAt(i) == '(') deep++;
            if (s.charAt(i) == ')') deep--;
        }
        if (deep < 0) return false;
        String close = ")".repeat(deep);
        return isT(s + close, 0) || isT(s + "1" + close, 0);
    }

    /** -1, or the FAULT. */
    static int fault(String s, String names) {
        for (int i = 0; i < s.length(); i++) {
            char c = s.charAt(i);
            if ("wktms".indexOf(c) >= 0 && names.indexOf(c) < 0 || !goesOn(s.substring(0, i + 1))) return i;
        }
        return isT(s, 0) ? -1 : s.length();
    }

    static int worth(String s, String names, int... v) {
        for (String signs : new String[] {"|", "&", "<=>", "+-", "*/%"}) {
            List<Integer> cuts = cuts(s, signs);
            if (cuts.isEmpty()) continue;
            int c = cuts.get(cuts.size() - 1);
            int a = worth(s.substring(0, c), names, v), b = worth(s.substring(c + 1), names, v);
            switch (s.charAt(c)) {
                case '|': return (a != 0 ? 1 : 0) | (b != 0 ? 1 : 0);
                case '&': return (a != 0 ? 1 : 0) & (b != 0 ? 1 : 0);
                case '<': return a < b ? 1 : 0;
                case '=': return a == b ? 1 : 0;
                case '>': return a > b ? 1 : 0;
                case '+': return a + b;
                case '-': return a - b;
                case '*': return a * b;
                case '/': return b == 0 ? 0 : (int) ((long) a / b);
                default: return b == 0 ? 0 : (int) ((long) a % b);
            }
        }
        if (s.charAt(0) == '!') return worth(s.substring(1), names, v) == 0 ? 1 : 0;
        if (s.charAt(0) == '(') return worth(s.substring(1, s.length() - 1), names, v);
        int name = names.indexOf(s.charAt(0));
        return name >= 0 ? v[name] : Integer.parseInt(s);
    }

    // ---- the face

    Scene now = new Scene();
    Scene kept;
    int images;
    List<Integer> trace = new ArrayList<>();
    int[] bits = new int[4];
    int[][] sheets = new int[4][];
    int[] told = new int[6];

    int err(int e) { told[LOW - e]++; return e; }
    boolean noWell(int w) { return w < 0 || w >= now.holes.size(); }
    boolean noThing(int t) { return t < 0 || t >= now.things.size(); }
    static boolean not(int v, int a, int b) { return v < a || v > b; }

    int well() {
        if (now.holes.size() == 9) return err(FULL);
        now.holes.add(new Hole());
        return now.holes.size() - 1;
    }

    int going(int w, int to, int days) {
        if (noWell(w) || to != -1 && noWell(to) || not(days, 1, 30)) return err(BEYOND);
        Hole h = now.holes.get(w);
        int led = h.to;
        h.to = to; h.days = days;
        return led;
    }

    int set(int w, int what, int v) {
        if (noWell(w) || not(what, 0, 1) || not(v, 0, what == 0 ? 99 : 1)) return err(BEYOND);
        Hole h = now.holes.get(w);
        int was = what == 0 ? h.toll : h.fishes;
        if (what == 0) h.toll = v; else h.fishes = v;
        return was;
    }

    static int inBits(Scene s, int state, int w) {
        int b = 0;
        for (Thing t : s.things) if (t.state == state && t.well == w) b += 1 << t.n;
        return b;
    }

    int ofWell(int w, int what) {
        if (noWell(w) || not(what, 0, 5)) return err(BEYOND);
        Hole h = now.holes.get(w);
        return new int[] {h.to, h.days, h.toll, h.fishes, inBits(now, 0, w), inBits(now, 1, w)}[what];
    }

    int goings(int s) {
        if (not(s, 0, 3)) return err(BEYOND);
        if (sheets[s] == null) return err(NONE);
        int came = 0;
        while (true) {
            if (2 * came + 2 > sheets[s].length || came >= now.holes.size()) return came;
            int to = sheets[s][2 * came], days = sheets[s][2 * came + 1];
            if (not(to, -1, now.holes.size() - 1) || not(days, 1, 30)) return came;
            now.holes.get(came).to = to;
            now.holes.get(came).days = days;
            came++;
        }
    }

    int thing(int kind, int m) {
        if (not(kind, 0, 6) || not(m, 0, 30)) return err(BEYOND);
        if (now.things.size() == 10) return err(FULL);
        Thing t = make(kind);
        t.scene = now; t.trace = trace; t.m = m; t.n = now.things.size();
        now.things.add(t);
        return t.n;
    }

    static int of(Scene s, int thing, int what) {
        Thing t = s.things.get(thing);
        switch (what) {
            case 0: return t.kind();
            case 1: return t.m;
            case 2: return t.state;
            case 3: return t.well;
            case 4: return t.state == 1 ? t.left : 0;
            case 5: return t.spent;
            case 6: return t.state != 0 || s.holes.get(t.well).to == -1 ? -1 : t.lastsNow();
            default: return t.state == 0 && t.stays() ? 1 : 0;
        }
    }

    int ofThing(int t, int what) { return noThing(t) || not(what, 0, 7) ? err(BEYOND) : of(now, t, what); }

    int as(int t, int kind) {
        if (noThing(t) || not(kind, 0, 6)) return err(BEYOND);
        if (!make(kind).getClass().isInstance(now.things.get(t))) return err(KIND);
        return now.things.get(t).m;
    }

    int let(int t, int w) {
        if (noThing(t) || noWell(w)) return err(BEYOND);
        Thing x = now.things.get(t);
        if (x.state != 2) return err(STATE);
        x.state = 0; x.well = w;
        return 1;
    }

    int fish(int t) {
        if (noThing(t)) return err(BEYOND);
        Thing x = now.things.get(t);
        if (x.state != 0) return err(STATE);
        x.state = 2;
        return x.well;
    }

    int feed(long word, int n) {
        if (not(n, 1, 8)) return err(BEYOND);
        if (now.tape.size() + n > 50) return err(FULL);
        for (int i = 0; i < n; i++) { now.tape.add((int) (word & 255)); word >>= 8; }
        return now.tape.size();
    }

    int text(int use) {
        if (not(use, 0, 1)) return err(BEYOND);
        StringBuilder b = new StringBuilder();
        for (int x : now.tape) b.append((char) x);
        now.tape.clear();
        int f = fault(b.toString(), use == 0 ? "wktm" : "wkts");
        if (f >= 0) return -10 - f;
        if (use == 0) now.slows = b.toString(); else now.takes = b.toString();
        return 1;
    }

    int law(int use, int a, int b, int c, int d) {
        if (not(use, 0, 1)) return err(BEYOND);
        if (use == 0) return now.slows == null ? 0 : Math.max(0, Math.min(30, worth(now.slows, "wktm", a, b, c, d)));
        return now.takes == null ? 1 : worth(now.takes, "wkts", a, b, c, d);
    }

    int days(int n) {
        if (not(n, 1, 100)) return err(BEYOND);
        if (now.today + n > 9999) return err(STATE);
        for (int i = 0; i < n; i++) now.day();
        return now.today;
    }

    int floods(int n) {
        if (not(n, 1, 100)) return err(BEYOND);
        if (now.today + n > 9999 || now.holes.isEmpty()) return err(STATE);
        for (int i = 0; i < n; i++) {
            Hole h = now.holes.get(now.draw() % now.holes.size());
            h.to = now.draw() % now.holes.size();
            h.days = now.draw() % 9 + 1;
            now.day();
        }
        return now.today;
    }

    int then(int n, int t, int what) {
        return not(n, 0, 200) || noThing(t) || not(what, 0, 7) ? err(BEYOND) : of(now.ahead(n), t, what);
    }

    int in(int n, int w) { return not(n, 0, 200) || noWell(w) ? err(BEYOND) : inBits(now.ahead(n), 0, w); }

    int seen(int n, int t, int w) {
        if (not(n, 1, 200) || noThing(t) || noWell(w)) return err(BEYOND);
        Scene s = now.copy();
        for (int d = 1; d <= n; d++) {
            s.day();
            if (s.things.get(t).state == 0 && s.things.get(t).well == w) return d;
        }
        return err(NONE);
    }

    int round(int t, int w) {
        if (noThing(t) || noWell(w)) return err(BEYOND);
        Scene s = now.copy();
        for (Thing x : s.things) { x.state = 2; x.well = -1; }
        for (Hole h : s.holes) h.fishes = 0;
        Thing x = s.things.get(t);
        x.state = 0; x.well = w;
        boolean been = false;
        for (int d = 1; d <= 200; d++) {
            s.day();
            been |= x.state == 1;
            if (been && x.state == 0 && x.well == w) return d;
        }
        return err(NONE);
    }

    int least(int from, int to, int carry, boolean toll) {
        int n = now.holes.size();
        int[][] d = new int[n][n];
        for (int i = 0; i < n; i++) {
            for (int j = 0; j < n; j++) {
                d[i][j] = i == j ? 0 : carry;
                Hole h = now.holes.get(i);
                if (h.to == j && i != j) d[i][j] = Math.min(carry, toll ? now.holes.get(j).toll : h.days);
            }
        }
        for (int k = 0; k < n; k++)
            for (int i = 0; i < n; i++)
                for (int j = 0; j < n; j++) d[i][j] = Math.min(d[i][j], d[i][k] + d[k][j]);
        return d[from][to];
    }

    int soon(int a, int b, int c) { return noWell(a) || noWell(b) || not(c, 1, 99) ? err(BEYOND) : least(a, b, c, false); }
    int cheap(int a, int b, int p) { return noWell(a) || noWell(b) || not(p, 0, 99) ? err(BEYOND) : least(a, b, p, true); }

    int rings(int what) {
        if (not(what, 0, 1)) return err(BEYOND);
        int n = now.holes.size(), deep = 0;
        Set<Set<Integer>> rings = new HashSet<>();
        for (int i = 0; i < n; i++) {
            Set<Integer> met = new HashSet<>();
            int at = now.holes.get(i).to;
            while (at != -1 && met.add(at)) at = now.holes.get(at).to;
            if (!met.contains(i)) deep += 1 << i; else rings.add(met);
        }
        return what == 0 ? deep : rings.size();
    }

    int meet(int a, int b) {
        if (noWell(a) || noWell(b)) return err(BEYOND);
        for (int d = 0; d <= 200; d++) if (now.walk(a, d) >= 0 && now.walk(a, d) == now.walk(b, d)) return d;
        return err(NONE);
    }

    int tenth() {
        int best = -1, most = 0;
        for (int i = 0; i < now.holes.size(); i++)
            if (now.holes.get(i).to != -1 && now.holes.get(i).days > most) { best = i; most = now.holes.get(i).days; }
        return best == -1 ? err(NONE) : best;
    }

    int find(int from, int in, int day) {
        if (noWell(from) || noWell(in) || not(day, 1, 99)) return err(BEYOND);
        if (now.finds.size() == 12) return err(FULL);
        now.finds.add(new int[] {from, in, day});
        return now.finds.size() - 1;
    }

    int forget() { int n = now.finds.size(); now.finds.clear(); return n; }

    int agrees(int f) {
        if (f < 0 || f >= now.finds.size()) return err(BEYOND);
        int[] x = now.finds.get(f);
        return now.walk(x[0], x[2]) == x[1] ? 1 : 0;
    }

    List<Scene> worlds(int w, int d, List<int[]> ways) {
        List<Scene> out = new ArrayList<>();
        for (int to = 0; to < now.holes.size(); to++) {
            for (int days = 1; days <= d; days++) {
                Scene s = now.copy();
                s.holes.get(w).to = to;
                s.holes.get(w).days = days;
                boolean all = true;
                for (int[] f : s.finds) all &= s.walk(f[0], f[2]) == f[1];
                if (all) { out.add(s); ways.add(new int[] {to, days}); }
            }
        }
        return out;
    }

    int belows(int w, int d, int what) {
        if (noWell(w) || not(d, 1, 5) || not(what, 0, 2)) return err(BEYOND);
        List<int[]> ways = new ArrayList<>();
        worlds(w, d, ways);
        if (what == 0) return ways.size();
        if (what == 1) return ways.isEmpty() ? -1 : ways.get(0)[0] * 10 + ways.get(0)[1];
        Set<Integer> led = new HashSet<>();
        for (int[] y : ways) led.add(y[0]);
        return led.size() > 1 ? 0 : 1;
    }

    int cork(int w, int d, int n, int what) {
        if (noWell(w) || not(d, 1, 5) || not(n, 1, 99) || not(what, 0, 1)) return err(BEYOND);
        List<Scene> worlds = worlds(w, d, new ArrayList<>());
        int best = -1, most = -1;
        for (int from = 0; from < now.holes.size(); from++) {
            Set<Integer> places = new HashSet<>();
            for (Scene s : worlds) places.add(Math.max(-1, s.walk(from, n)));
            if (places.size() > most) { most = places.size(); best = from; }
        }
        return what == 0 ? best : most;
    }

    int seed(int v) { int was = now.z; now.z = v; return was; }

    int voice(int t, int act, int x) {
        if (noThing(t) || not(act, 0, 3)) return err(BEYOND);
        trace.clear();
        Thing y = now.things.get(t);
        return act == 0 ? y.sinks(x) : act == 1 ? y.goes(x) : act == 2 ? y.waits(x) : y.tells(x);
    }

    int trace(int i) { return i < 0 || i >= Math.min(40, trace.size()) ? err(NONE) : trace.get(i); }

    int sheet(int s, int b, int n) {
        if (not(s, 0, 3) || b != 0 && b != 8 && b != 16 && b != 32) return err(BEYOND);
        if (b != 0 && n < 0) return err(STATE);
        if (b != 0 && n > 40) return err(BEYOND);
        sheets[s] = b == 0 ? null : new int[n];
        bits[s] = b;
        return 1;
    }

    int put(int s, int i, int v) {
        if (not(s, 0, 3)) return err(BEYOND);
        if (sheets[s] == null) return err(NONE);
        if (i < 0 || i >= sheets[s].length) return err(BEYOND);
        sheets[s][i] = v << 32 - bits[s] >> 32 - bits[s];
        return 1;
    }

    int move(int s, int i, int o, int j, int n) {
        if (not(s, 0, 3) || not(o, 0, 3)) return err(BEYOND);
        if (sheets[s] == null || sheets[o] == null) return err(NONE);
        if (bits[s] != bits[o]) return err(KIND);
        if (n < 0 || i < 0 || j < 0 || (long) i + n > sheets[s].length || (long) j + n > sheets[o].length) return err(BEYOND);
        int[] were = sheets[s].clone();
        for (int k = 0; k < n; k++) sheets[o][j + k] = were[i + k];
        return n;
    }

    int image() { kept = now.copy(); return ++images; }

    int restore() {
        if (kept == null) return err(NONE);
        now = kept.copy();
        return now.today;
    }

    int tell(int v) {
        if (now.waiting.size() == 20) return err(FULL);
        now.waiting.add(v);
        return now.waiting.size();
    }

    int check(int t) {
        List<Integer> w = new ArrayList<>(now.waiting);
        now.waiting.clear();
        if (noThing(t)) return err(BEYOND);
        for (int i = 0; i < w.size(); i++) {
            Thing x = now.ahead(i + 1).things.get(t);
            if (w.get(i) != (x.state == 0 ? x.well : -1)) return 1 + i;
        }
        return 0;
    }

    int count(int what) {
        if (not(what, 0, 8)) return err(BEYOND);
        int out = 0;
        for (Thing t : now.things) if (t.state == 2) out++;
        return new int[] {now.today, now.holes.size(), now.things.size(), out, now.finds.size(), now.tape.size(),
            now.waiting.size(), Math.min(40, trace.size()), now.z}[what];
    }

    int told(int k) { return not(k, 1, 5) ? err(BEYOND) : told[k]; }
}
