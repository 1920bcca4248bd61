import java.util.Random;

/** Long runs of calls with drawn arguments: NineWells answers each as the Model does. */
public final class ModelTest {
    private static final int RUNS = 2500;
    /** An object is used for 512 calls: all() makes 152 of them, and one that is begun may make 23. */
    private static final int CALLS = 512 - 152 - 23;
    private static final int[] ODD = {Integer.MIN_VALUE, Integer.MIN_VALUE + 1, -1000, -2, -1, 41, 100, 201, 1000, Integer.MAX_VALUE - 1, Integer.MAX_VALUE};
    private static final String SIGNS = "0123456789wktms!()|&<=>+-*/% x";

    private final Random draws;
    private final boolean tame;
    private int made;

    private ModelTest(long seed) {
        draws = new Random(seed);
        tame = draws.nextInt(4) != 0;
    }

    /** Mostly least .. most; now and then the edge, one beyond it, or something odd. */
    private int some(int least, int most) {
        int r = draws.nextInt(tame ? 120 : 30);
        if (r == 0) return least - 1;
        if (r == 1) return most + 1;
        if (r == 2) return ODD[draws.nextInt(ODD.length)];
        if (r == 3) return least;
        if (r == 4) return most;
        return least + draws.nextInt(most - least + 1);
    }

    private int any() {
        return draws.nextInt(3) == 0 ? draws.nextInt() : draws.nextInt(60) - 20;
    }

    private String unit(int left) {
        int r = draws.nextInt(left > 0 ? 10 : 6);
        if (r < 3) return Integer.toString(draws.nextInt(draws.nextInt(3) == 0 ? 10000 : 10));
        if (r < 6) return "" + "wktms".charAt(draws.nextInt(5));
        if (r < 8) return "!" + unit(left - 1);
        return "(" + sum(left - 1) + ")";
    }

    private String sum(int left) {
        StringBuilder b = new StringBuilder(unit(left));
        for (int i = draws.nextInt(4); i > 0; i--) {
            b.append("|&<=>+-*/%+-*".charAt(draws.nextInt(13))).append(unit(left));
        }
        return b.toString();
    }

    private String drawnText() {
        String s = sum(draws.nextInt(7));
        if (draws.nextInt(4) == 0) {
            int at = draws.nextInt(s.length() + 1);
            s = s.substring(0, at) + SIGNS.charAt(draws.nextInt(SIGNS.length())) + s.substring(at);
        }
        if (draws.nextInt(6) == 0) {
            s = s.substring(0, draws.nextInt(s.length() + 1));
        }
        return s.length() > 50 ? s.substring(0, 50) : s;
    }

    private void same(String call, int got, int want) {
        made++;
        if (got != want) {
            throw new IllegalStateException(call + " answered " + got + ", the model " + want);
        }
    }

    private void aWholeText(NineWells x, Model y) {
        String s = drawnText();
        for (int i = 0; i < s.length(); i += 8) {
            long word = draws.nextInt(2) == 0 ? 0 : -1;
            int n = Math.min(8, s.length() - i);
            for (int k = n - 1; k >= 0; k--) word = word << 8 | s.charAt(i + k);
            same("feed of " + s, x.feed(word, n), y.feed(word, n));
        }
        int use = some(0, 1);
        same("text(" + use + ") of " + s, x.text(use), y.text(use));
    }

    private void aFindThatIsSo(NineWells x, Model y) {
        int w = y.now.holes.size();
        if (w == 0) return;
        int from = draws.nextInt(w);
        int day = 1 + draws.nextInt(99);
        int in = y.now.walk(from, day);
        if (in >= 0) same("find", x.find(from, in, day), y.find(from, in, day));
    }

    private void aGoodCheck(NineWells x, Model y) {
        int t = y.now.things.size();
        if (t == 0) return;
        int thing = draws.nextInt(t);
        int wrong = draws.nextInt(30);
        int most = draws.nextInt(22);
        for (int i = y.now.waiting.size(); i < most; i++) {
            Model.Thing z = y.now.ahead(i + 1).things.get(thing);
            int v = (z.state == 0 ? z.well : -1) + (i == wrong ? 1 : 0);
            same("tell", x.tell(v), y.tell(v));
        }
        same("check", x.check(thing), y.check(thing));
    }

    private void one(NineWells x, Model y) {
        int w = Math.max(1, y.now.holes.size()) - 1;
        int t = Math.max(1, y.now.things.size()) - 1;
        int a, b, c, d;
        switch (draws.nextInt(56)) {
            case 0: same("well()", x.well(), y.well()); break;
            case 1: case 2: case 3:
                a = some(0, w); b = some(-1, w); c = some(1, draws.nextBoolean() ? 5 : 30);
                same("going(" + a + ", " + b + ", " + c + ")", x.going(a, b, c), y.going(a, b, c)); break;
            case 4:
                a = some(0, w); c = some(0, 1); b = some(0, c == 0 ? 99 : 1);
                same("set(" + a + ", " + c + ", " + b + ")", x.set(a, c, b), y.set(a, c, b)); break;
            case 5: a = some(0, w); b = some(0, 5); same("ofWell(" + a + ", " + b + ")", x.ofWell(a, b), y.ofWell(a, b)); break;
            case 6: a = some(0, 3); same("goings(" + a + ")", x.goings(a), y.goings(a)); break;
            case 7: a = some(0, 6); b = some(0, draws.nextBoolean() ? 4 : 30); same("thing(" + a + ", " + b + ")", x.thing(a, b), y.thing(a, b)); break;
            case 8: case 9: case 10: a = some(0, t); b = some(0, 7); same("ofThing(" + a + ", " + b + ")", x.ofThing(a, b), y.ofThing(a, b)); break;
            case 11: a = some(0, t); b = some(0, 6); same("as(" + a + ", " + b + ")", x.as(a, b), y.as(a, b)); break;
            case 12: case 13: case 14: a = some(0, t); b = some(0, w); same("let(" + a + ", " + b + ")", x.let(a, b), y.let(a, b)); break;
            case 15: a = some(0, t); same("fish(" + a + ")", x.fish(a), y.fish(a)); break;
            case 16: long word = draws.nextLong(); a = some(1, 8); same("feed(" + word + ", " + a + ")", x.feed(word, a), y.feed(word, a)); break;
            case 17: a = some(0, 1); same("text(" + a + ")", x.text(a), y.text(a)); break;
            case 18: case 19:
                int use = some(0, 1); a = any(); b = any(); c = any(); d = any();
                same("law(" + use + ", ..)", x.law(use, a, b, c, d), y.law(use, a, b, c, d)); break;
            case 20: case 21: a = some(1, draws.nextInt(6) == 0 ? 100 : 9); same("days(" + a + ")", x.days(a), y.days(a)); break;
            case 22: a = some(1, draws.nextInt(6) == 0 ? 100 : 4); same("floods(" + a + ")", x.floods(a), y.floods(a)); break;
            case 23: case 24: a = some(0, draws.nextInt(4) == 0 ? 200 : 20); b = some(0, t); c = some(0, 7); same("then(" + a + ", " + b + ", " + c + ")", x.then(a, b, c), y.then(a, b, c)); break;
            case 25: a = some(0, draws.nextInt(4) == 0 ? 200 : 20); b = some(0, w); same("in(" + a + ", " + b + ")", x.in(a, b), y.in(a, b)); break;
            case 26: a = some(1, draws.nextInt(4) == 0 ? 200 : 20); b = some(0, t); c = some(0, w); same("seen(" + a + ", " + b + ", " + c + ")", x.seen(a, b, c), y.seen(a, b, c)); break;
            case 27: case 28: a = some(0, t); b = some(0, w); same("round(" + a + ", " + b + ")", x.round(a, b), y.round(a, b)); break;
            case 29: a = some(0, w); b = some(0, w); c = some(1, 99); same("soon(" + a + ", " + b + ", " + c + ")", x.soon(a, b, c), y.soon(a, b, c)); break;
            case 30: a = some(0, w); b = some(0, w); c = some(0, 99); same("cheap(" + a + ", " + b + ", " + c + ")", x.cheap(a, b, c), y.cheap(a, b, c)); break;
            case 31: a = some(0, 1); same("rings(" + a + ")", x.rings(a), y.rings(a)); break;
            case 32: a = some(0, w); b = some(0, w); same("meet(" + a + ", " + b + ")", x.meet(a, b), y.meet(a, b)); break;
            case 33: same("tenth()", x.tenth(), y.tenth()); break;
            case 34: if (draws.nextInt(3) == 0) { a = some(0, w); b = some(0, w); c = some(1, 99); same("find", x.find(a, b, c), y.find(a, b, c)); } break;
            case 35: if (draws.nextInt(2) == 0) same("forget()", x.forget(), y.forget()); break;
            case 36: a = some(0, Math.max(0, y.now.finds.size() - 1)); same("agrees(" + a + ")", x.agrees(a), y.agrees(a)); break;
            case 37: a = some(0, w); b = some(1, 5); c = some(0, 2); same("belows(" + a + ", " + b + ", " + c + ")", x.belows(a, b, c), y.belows(a, b, c)); break;
            case 38: a = some(0, w); b = some(1, 5); c = some(1, 99); d = some(0, 1); same("cork(" + a + ", " + b + ", " + c + ", " + d + ")", x.cork(a, b, c, d), y.cork(a, b, c, d)); break;
            case 39: a = any(); same("seed(" + a + ")", x.seed(a), y.seed(a)); break;
            case 40: case 41: a = some(0, t); b = some(0, 3); c = any(); same("voice(" + a + ", " + b + ", " + c + ")", x.voice(a, b, c), y.voice(a, b, c)); break;
            case 42: a = some(0, 11); same("trace(" + a + ")", x.trace(a), y.trace(a)); break;
            case 43: a = some(0, 3); b = draws.nextInt(20) == 0 ? some(0, 32) : new int[] {8, 8, 16, 32, 0}[draws.nextInt(5)]; c = some(0, 40); same("sheet(" + a + ", " + b + ", " + c + ")", x.sheet(a, b, c), y.sheet(a, b, c)); break;
            case 44: case 45: case 46: case 47: aPut(x, y, w); break;
            case 48: a = some(0, 3); b = some(0, 40); c = some(0, 3); d = some(0, 40); int n = some(0, 20); same("move", x.move(a, b, c, d, n), y.move(a, b, c, d, n)); break;
            case 49: if (draws.nextInt(3) == 0) same("image()", x.image(), y.image()); break;
            case 50: if (draws.nextInt(3) == 0) same("restore()", x.restore(), y.restore()); break;
            case 51: a = any(); same("tell(" + a + ")", x.tell(a), y.tell(a)); break;
            case 52: if (draws.nextInt(4) == 0) { a = some(0, t); same("check(" + a + ")", x.check(a), y.check(a)); } else aGoodCheck(x, y); break;
            case 53: a = some(0, 8); same("count(" + a + ")", x.count(a), y.count(a)); break;
            case 54: a = some(1, 5); same("told(" + a + ")", x.told(a), y.told(a)); break;
            default: if (draws.nextBoolean()) aWholeText(x, y); else aFindThatIsSo(x, y);
        }
    }

    private void aPut(NineWells x, Model y, int w) {
        int sheet = some(0, 3);
        int size = sheet >= 0 && sheet < 4 && y.sheets[sheet] != null ? y.sheets[sheet].length : 0;
        int i = some(0, Math.max(0, size - 1));
        int v = draws.nextInt(10) == 0 ? any() : i % 2 == 0 ? draws.nextInt(w + 2) - 1 : 1 + draws.nextInt(30);
        if (draws.nextInt(8) == 0) v += 256 << 8 * draws.nextInt(3);
        same("put(" + sheet + ", " + i + ", " + v + ")", x.put(sheet, i, v), y.put(sheet, i, v));
    }

    private void all(NineWells x, Model y) {
        for (int k = 0; k <= 8; k++) same("at the end count(" + k + ")", x.count(k), y.count(k));
        for (int k = 1; k <= 5; k++) same("at the end told(" + k + ")", x.told(k), y.told(k));
        for (int w = 0; w < y.now.holes.size(); w++)
            for (int k = 0; k <= 5; k++) same("at the end ofWell(" + w + ", " + k + ")", x.ofWell(w, k), y.ofWell(w, k));
        for (int t = 0; t < y.now.things.size(); t++)
            for (int k = 0; k <= 7; k++) same("at the end ofThing(" + t + ", " + k + ")", x.ofThing(t, k), y.ofThing(t, k));
        for (int s = 0; s < 4; s++) same("at the end goings(" + s + ")", x.goings(s), y.goings(s));
    }

    private void run() {
        NineWells x = new NineWells();
        Model y = new Model();
        if (tame) {
            for (int i = 1 + draws.nextInt(9); i > 0; i--) same("well()", x.well(), y.well());
            for (int i = 3 + draws.nextInt(8); i > 0; i--) {
                int kind = draws.nextInt(7);
                int m = draws.nextInt(5);
                same("thing(" + kind + ", " + m + ")", x.thing(kind, m), y.thing(kind, m));
            }
        }
        if (draws.nextInt(12) == 0) {
            for (int i = 0; i < 98; i++) same("days(100)", x.days(100), y.days(100));
        }
        while (made < CALLS) one(x, y);
        all(x, y);
    }

    public static void main(String[] args) {
        int runs = args.length > 0 ? Integer.parseInt(args[0]) : RUNS;
        long from = args.length > 1 ? Long.parseLong(args[1]) : 0;
        int wrong = 0;
        for (long seed = from; seed < from + runs; seed++) {
            try {
                new ModelTest(seed).run();
            } catch (RuntimeException e) {
                wrong++;
                System.out.println("run " + seed + ": " + e + " at " + e.getStackTrace()[0]);
            }
        }
        System.out.println("ModelTest: " + (runs - wrong) + " passed, " + wrong + " failed");
        if (wrong != 0) System.exit(1);
    }
}
