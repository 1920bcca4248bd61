import java.util.ArrayList;
import java.util.List;
import java.util.Set;
import java.util.TreeSet;
import java.util.function.Function;
import java.util.function.Supplier;
import java.util.function.ToIntFunction;

/**
 * What the tests of edges share. An edge is one sentence of the document that
 * names a boundary; it is told with its promise's number, and counts as one
 * test, whatever number of calls it makes. A refused call is held against a
 * twin on which it wasn't made: both must answer alike from then on.
 */
abstract class Edges {
    static final int LOW = -1000000000;
    static final int BEYOND = LOW - 1, NONE = LOW - 2, STATE = LOW - 3, FULL = LOW - 4, KIND = LOW - 5;
    static final int MIN = Integer.MIN_VALUE, MAX = Integer.MAX_VALUE;

    private static final String[] ERRORS = {"", "BEYOND", "NONE", "STATE", "FULL", "KIND"};
    /** The ERRORS that each promise names, by its number. */
    private static final String[] NAMED = {"", "", "FULL", "BEYOND", "BEYOND", "BEYOND", "BEYOND NONE", "BEYOND FULL", "BEYOND", "BEYOND KIND", "BEYOND STATE",
        "BEYOND STATE", "BEYOND FULL", "BEYOND", "BEYOND", "BEYOND STATE", "BEYOND STATE", "BEYOND", "BEYOND", "BEYOND NONE", "BEYOND NONE",
        "BEYOND", "BEYOND", "BEYOND", "BEYOND NONE", "NONE", "BEYOND FULL", "", "BEYOND", "BEYOND", "BEYOND",
        "", "BEYOND", "NONE", "BEYOND STATE", "BEYOND NONE", "BEYOND NONE KIND", "", "NONE", "FULL", "BEYOND", "BEYOND", "BEYOND"};

    private static final Set<String> REFUSED = new TreeSet<>();
    private static final int[] EDGES_OF = new int[NAMED.length];
    private static int passed;
    private static int failed;
    private static String telling = "";
    private static boolean isSo;

    // ---- edges

    static void edge(int promise, String sentence, Runnable test) {
        telling = "Promise " + promise + ", " + sentence;
        isSo = true;
        EDGES_OF[promise]++;
        test.run();
        if (isSo) passed++;
        else failed++;
    }

    static void due(String call, int got, int want) {
        if (got == want) return;
        isSo = false;
        System.out.println(telling + ": " + call + " answered " + got + ", due is " + want);
    }

    static void due(String call, String got, String want) {
        if (got.equals(want)) return;
        isSo = false;
        System.out.println(telling + ": behind " + call + " it answers\n  " + got + "\nwithout it\n  " + want);
    }

    // ---- refused calls

    /** The call answers the ERROR, which is told once more, and nothing else is changed. */
    static void refused(int promise, String sentence, int error, Supplier<NineWells> made, ToIntFunction<NineWells> call) {
        refusedAs(promise, sentence, error, made, call, made);
    }

    /** As refused(), but the object is then as another one: the promise says that something is changed all the same. */
    static void refusedAs(int promise, String sentence, int error, Supplier<NineWells> made, ToIntFunction<NineWells> call, Supplier<NineWells> as) {
        REFUSED.add(promise + " " + ERRORS[LOW - error]);
        edge(promise, sentence + " is refused", () -> alike(made, call, error, LOW - error, as));
    }

    /** The BEYOND of a state with something of everything in it. */
    static void beyond(int promise, String sentence, ToIntFunction<NineWells> call) {
        refused(promise, sentence, BEYOND, Edges::lived, call);
    }

    /** The call answers, and nothing is changed by it. */
    static void onlyAsks(int promise, String call, int want, ToIntFunction<NineWells> asked) {
        edge(promise, call + " only asks", () -> alike(Edges::lived, asked, want, 0, Edges::lived));
    }

    private static void alike(Supplier<NineWells> made, ToIntFunction<NineWells> call, int answer, int told, Supplier<NineWells> as) {
        for (Function<NineWells, String> look : LOOKS) {
            NineWells x = made.get();
            int[] ahead = toldBy(x);
            due("it", call.applyAsInt(x), answer);
            int[] then = toldBy(x);
            for (int k = 1; k <= 5; k++) due("told(" + k + ") behind it, less what it was,", then[k] - ahead[k], k == told ? 1 : 0);
            due("it", look.apply(x), look.apply(as.get()));
        }
    }

    static int[] toldBy(NineWells x) {
        int[] told = new int[6];
        for (int k = 1; k <= 5; k++) told[k] = x.told(k);
        return told;
    }

    // ---- what can be known of an object; each look may change it, so each has an object of its own

    static final List<Function<NineWells, String>> LOOKS =
        List.of(Edges::whatIsAsked, Edges::sheets, Edges::tape, Edges::numbersThatWait, Edges::finds, Edges::image);

    static String whatIsAsked(NineWells x) {
        List<Integer> a = new ArrayList<>();
        for (int k = 0; k <= 8; k++) a.add(x.count(k));
        int wells = x.count(1), things = x.count(2);
        for (int w = 0; w < wells; w++) for (int k = 0; k <= 5; k++) a.add(x.ofWell(w, k));
        for (int t = 0; t < things; t++) for (int k = 0; k <= 7; k++) a.add(x.ofThing(t, k));
        for (int t = 0; t < things; t++) a.add(x.then(9, t, 3) * 100 + x.then(9, t, 4));
        for (int w = 0; w < wells; w++) a.add(x.in(5, w));
        for (int w = 0; w < wells; w++) a.add(x.belows(w, 3, 0));
        for (int w = 0; w < wells; w++) a.add(x.cork(w, 2, 5, 1));
        for (int i = 0; i < x.count(7); i++) a.add(x.trace(i));
        for (int i = 0; i < 4; i++) a.add(x.law(0, i, 3 * i, 10 * i, 17 * i));
        for (int i = 0; i < 4; i++) a.add(x.law(1, i, 3 * i, 10 * i, 400 * i));
        return a.toString();
    }

    /** By each two that stands at a SHEET's front, which goings() tells. */
    static String sheets(NineWells x) {
        List<Integer> a = new ArrayList<>();
        while (x.count(1) < 6) x.well();
        int[] sizes = new int[4];
        for (int s = 0; s < 4; s++) {
            a.add(x.goings(s));
            sizes[s] = sizeOf(x, s);
            a.add(sizes[s]);
            for (int i = 0; i + 1 < sizes[s]; i += 2) {
                x.move(s, i, s, 0, 2);
                a.add(x.goings(s));
                a.add(x.ofWell(0, 0) * 100 + x.ofWell(0, 1));
            }
        }
        for (int s = 0; s < 4; s++) a.add(x.move(s, 0, (s + 1) % 4, 0, 0));
        for (int bits = 8; bits <= 32; bits *= 2) {
            x.sheet(3, bits, 0);
            for (int s = 0; s < 3; s++) a.add(x.move(s, 0, 3, 0, 0));
        }
        return a.toString();
    }

    private static int sizeOf(NineWells x, int s) {
        int least = -1, most = 41;
        while (most - least > 1) {
            int i = (least + most) / 2;
            if (x.move(s, i, s, i, 0) == 0) least = i;
            else most = i;
        }
        return least;
    }

    static String tape(NineWells x) {
        List<Integer> a = new ArrayList<>();
        a.add(x.count(5));
        a.add(x.feed('k', 1));
        a.add(x.text(1));
        for (int i = 0; i < 4; i++) a.add(x.law(1, 100 * i, 3 * i, i * i, 1 - i));
        return a.toString();
    }

    static String numbersThatWait(NineWells x) {
        List<Integer> a = new ArrayList<>();
        a.add(x.count(6));
        a.add(x.check(0));
        a.add(x.count(6));
        return a.toString();
    }

    /** By the GOINGS with which each FIND agrees. */
    static String finds(NineWells x) {
        List<Integer> a = new ArrayList<>();
        int wells = x.count(1);
        for (int days = 1; days <= 3 && wells > 0; days++) {
            for (int f = 0; f < x.count(4); f++) a.add(x.agrees(f));
            for (int w = 0; w < wells; w++) x.going(w, (w + 1) % wells, days);
        }
        a.add(x.forget());
        return a.toString();
    }

    static String image(NineWells x) {
        int today = x.restore();
        return today + " " + whatIsAsked(x) + " " + x.image();
    }

    // ---- objects to begin with

    static NineWells fresh(int wells) {
        NineWells x = new NineWells();
        for (int i = 0; i < wells; i++) x.well();
        return x;
    }

    /** A THING of a KIND that is in a WELL. */
    static int letNew(NineWells x, int kind, int m, int well) {
        int thing = x.thing(kind, m);
        x.let(thing, well);
        return thing;
    }

    static void write(NineWells x, String s) {
        for (int i = 0; i < s.length(); i += 8) {
            int n = Math.min(8, s.length() - i);
            long word = 0;
            for (int k = n - 1; k >= 0; k--) word = word << 8 | s.charAt(i + k);
            x.feed(word, n);
        }
    }

    static int text(NineWells x, int use, String s) {
        write(x, s);
        return x.text(use);
    }

    static void row(NineWells x, int sheet, int bits, int... v) {
        x.sheet(sheet, bits, v.length);
        for (int i = 0; i < v.length; i++) x.put(sheet, i, v[i]);
    }

    static void goTo(NineWells x, int day) {
        int today = x.count(0);
        while (today >= 0 && today < day) today = x.days(Math.min(100, day - today));
    }

    /** Five WELLS, seven THINGS, something of everything; SHEET 3 is missing, 1 is of other bits; an IMAGE unlike what is. */
    static NineWells lived() {
        NineWells x = fresh(4);
        x.going(0, 1, 3);
        x.going(1, 2, 1);
        x.going(2, 0, 4);
        x.set(1, 0, 7);
        x.set(2, 0, 99);
        x.set(2, 1, 1);
        int[] m = {0, 4, 1, 9, 2, 30, 5};
        for (int kind = 0; kind < 7; kind++) x.thing(kind, m[kind]);
        x.let(0, 0);
        x.let(1, 0);
        x.let(2, 3);
        x.let(3, 1);
        x.find(0, 1, 3);
        text(x, 0, "m/9");
        x.tell(5);
        x.seed(17);
        x.days(1);
        x.image();
        x.well();
        x.going(3, 3, 30);
        x.let(4, 4);
        x.let(6, 0);
        x.fish(6);
        x.days(2);
        x.find(1, 2, 1);
        x.find(3, 3, 30);
        text(x, 0, "m/3");
        text(x, 1, "s<500");
        write(x, "w*7+");
        row(x, 0, 8, 0, 5, 1, 30, -1, 2);
        row(x, 1, 16, 4, 8, 3, 9);
        row(x, 2, 8, 2, 3, 1, 4, 0);
        x.seed(-5);
        x.voice(6, 3, 4);
        x.check(0);
        tellRightly(x, 5);
        return x;
    }

    /** Nine WELLS, ten THINGS, twelve FINDS, fifty bytes, twenty numbers that wait, a SHEET of forty. */
    static NineWells brim() {
        NineWells x = fresh(9);
        for (int w = 0; w < 9; w++) x.going(w, (w + 2) % 9, w + 1);
        for (int t = 0; t < 10; t++) x.thing(t % 7, t);
        for (int t = 0; t < 8; t++) x.let(t, t);
        for (int f = 0; f < 12; f++) x.find(f % 9, (f + 2) % 9, f + 1);
        x.image();
        x.days(2);
        x.sheet(0, 32, 40);
        for (int i = 34; i < 40; i++) x.put(0, i, i - 33);
        write(x, "10" + "+k".repeat(24));
        x.voice(4, 3, 2);
        tellRightly(x, 20);
        return x;
    }

    /** On the last DAY that there is. */
    static NineWells late() {
        NineWells x = fresh(3);
        x.going(0, 1, 3);
        x.going(1, 0, 30);
        x.going(2, 0, 9);
        for (int kind = 0; kind < 7; kind++) letNew(x, kind, 0, kind % 3);
        x.find(0, 1, 3);
        x.image();
        goTo(x, 9999);
        tellRightly(x, 4);
        return x;
    }

    /** The numbers that wait are where THING 0 is, so a change of one shows. */
    private static void tellRightly(NineWells x, int n) {
        for (int i = 1; i <= n; i++) x.tell(x.then(i, 0, 2) == 0 ? x.then(i, 0, 3) : -1);
    }

    // ---- the end

    /** Each promise of these has an edge, and each ERROR that it names was refused with. */
    static void end(String name, int from, int to) {
        for (int p = from; p <= to; p++) {
            telling = "Promise " + p;
            isSo = true;
            if (EDGES_OF[p] == 0) due("its edges", "none", "some");
            for (String error : NAMED[p].split(" ")) {
                if (!error.isEmpty() && !REFUSED.contains(p + " " + error)) due("a refusal with " + error, "none", "one");
            }
            if (isSo) passed++;
            else failed++;
        }
        System.out.println(name + ": " + passed + " passed, " + failed + " failed");
        if (failed != 0) System.exit(1);
    }
}
