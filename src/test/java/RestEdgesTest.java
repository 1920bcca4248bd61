import java.util.function.Function;
import java.util.function.Supplier;
import java.util.function.ToIntFunction;

/** Promises 31 to 42, draws, voices, sheets, images, what is told: each boundary that they, or the terms they use, name. */
public final class RestEdgesTest extends Edges {

    private static void seed() {
        edge(31, "any number, and what it was", () -> {
            NineWells x = new NineWells();
            int was = 1;
            for (int v : new int[] {MIN, -1, 0, 1, MAX, LOW, BEYOND, KIND, KIND - 1}) {
                due("seed(" + v + ")", x.seed(v), was);
                due("count(8)", x.count(8), v);
                was = v;
            }
        });
        edge(31, "an answer below LOW is no ERROR", () -> {
            NineWells x = new NineWells();
            for (int e = BEYOND; e >= KIND; e--) x.seed(e);
            x.seed(0);
            for (int k = 1; k <= 5; k++) due("told(" + k + ")", x.told(k), 0);
        });
        edge(31, "all else stays", () -> {
            NineWells x = lived(), y = lived();
            due("seed(9)", x.seed(9), -5);
            due("seed(-5)", x.seed(-5), 9);
            due("seed(9)", whatIsAsked(x), whatIsAsked(y));
        });
    }

    /** A THING of a KIND with number n, those ahead of it being THINGS. */
    private static NineWells numbered(int n, int kind, int m) {
        NineWells x = new NineWells();
        for (int i = 0; i < n; i++) x.thing(0, 17);
        x.thing(kind, m);
        return x;
    }

    private static int sinks(int kind, int n, int x) {
        return kind == 2 ? (x + n) * 3 : kind == 6 ? (x + n) * 3 ^ n : x + n;
    }

    private static int waits(int kind, int m, int x) {
        return kind == 3 ? -(x - m) : x - m;
    }

    private static int goes(int kind, int n, int m, int x) {
        int plain = 2 * sinks(kind, n, kind == 4 ? x + 1 : x);
        return kind == 1 || kind == 4 ? plain - (1 - m) : plain;
    }

    private static int tells(int kind, int n, int m, int x) {
        int plain = goes(kind, n, m, x) ^ waits(kind, m, x);
        return kind == 5 ? plain - (2 + n) : kind == 6 ? goes(kind, n, m, x) - plain : plain;
    }

    private static void voice() {
        for (int kind = 0; kind <= 6; kind++) {
            int of = kind;
            edge(32, "ints that go round, m of 0 and 30, the first and the last THING: KIND " + kind, () -> {
                for (int n = 0; n <= 9; n += 9) {
                    for (int m = 0; m <= 30; m += 30) {
                        NineWells x = numbered(n, of, m);
                        for (int v : new int[] {MIN, MIN + 1, -715827883, -1, 0, 1, 715827882, 1 << 30, MAX - 1, MAX}) {
                            due("voice(" + n + ", 0, " + v + ")", x.voice(n, 0, v), sinks(of, n, v));
                            due("voice(" + n + ", 1, " + v + ")", x.voice(n, 1, v), goes(of, n, m, v));
                            due("voice(" + n + ", 2, " + v + ")", x.voice(n, 2, v), waits(of, m, v));
                            due("voice(" + n + ", 3, " + v + ")", x.voice(n, 3, v), tells(of, n, m, v));
                        }
                    }
                }
            });
        }
        edge(32, "the least int taken from 0 is the least int", () -> due("voice(0, 2, least) of a COLD one", numbered(0, 3, 0).voice(0, 2, MIN), MIN));
        edge(32, "an answer below LOW is no ERROR", () -> {
            NineWells x = numbered(0, 0, 0);
            for (int e = BEYOND; e >= KIND; e--) due("voice(0, 0, " + e + ")", x.voice(0, 0, e), e);
            for (int k = 1; k <= 5; k++) due("told(" + k + ")", x.told(k), 0);
        });
        beyond(32, "THING -1 (THE TRACE stays)", x -> x.voice(-1, 0, 0));
        beyond(32, "the THING behind the last (THE TRACE stays)", x -> x.voice(7, 0, 0));
        beyond(32, "the least int for a THING", x -> x.voice(MIN, 0, 0));
        beyond(32, "the greatest int for a THING", x -> x.voice(MAX, 0, 0));
        beyond(32, "act -1 (THE TRACE stays)", x -> x.voice(0, -1, 0));
        beyond(32, "act 4 (THE TRACE stays)", x -> x.voice(0, 4, 0));
        beyond(32, "the least int for an act", x -> x.voice(0, MIN, 0));
        beyond(32, "the greatest int for an act", x -> x.voice(0, MAX, 0));
        refused(32, "THING 10 of ten", BEYOND, Edges::brim, x -> x.voice(10, 3, 0));
        refused(32, "THING 0 of none", BEYOND, NineWells::new, x -> x.voice(0, 0, 0));
    }

    private static final int[][][] TRACES = {
        {{10}, {11, 10}, {12}, {13, 11, 10, 12}},
        {{10}, {20, 11, 10, 12}, {12}, {13, 20, 11, 10, 12, 12}},
        {{30, 10}, {11, 30, 10}, {12}, {13, 11, 30, 10, 12}},
        {{10}, {11, 10}, {40, 12}, {13, 11, 10, 40, 12}},
        {{10}, {50, 20, 11, 10, 12}, {12}, {13, 50, 20, 11, 10, 12, 12}},
        {{10}, {11, 10}, {12}, {60, 13, 11, 10, 12, 10}},
        {{70, 30, 10}, {11, 70, 30, 10}, {12}, {71, 11, 70, 30, 10, 13, 11, 70, 30, 10, 12}}};

    private static void trace() {
        for (int kind = 0; kind <= 6; kind++) {
            int of = kind;
            edge(33, "from the 0-th to the last, none beside them: KIND " + kind, () -> {
                for (int act = 0; act <= 3; act++) {
                    NineWells x = numbered(0, of, 3);
                    x.voice(0, act, 7);
                    int[] want = TRACES[of][act];
                    due("count(7)", x.count(7), want.length);
                    for (int i = 0; i < want.length; i++) due("act " + act + ", trace(" + i + ")", x.trace(i), want[i]);
                    due("act " + act + ", trace(-1)", x.trace(-1), NONE);
                    due("act " + act + ", trace(" + want.length + ")", x.trace(want.length), NONE);
                }
            });
        }
        edge(33, "of the latest voice() alone, be it shorter", () -> {
            NineWells x = numbered(0, 6, 0);
            x.voice(0, 3, 1);
            due("count(7)", x.count(7), 11);
            x.voice(0, 2, 1);
            due("count(7)", x.count(7), 1);
            due("trace(0)", x.trace(0), 12);
            due("trace(1)", x.trace(1), NONE);
        });
        refused(33, "ahead of any voice()", NONE, NineWells::new, x -> x.trace(0));
        refused(33, "i -1", NONE, Edges::lived, x -> x.trace(-1));
        refused(33, "the one behind the last of eleven", NONE, Edges::lived, x -> x.trace(11));
        refused(33, "i 39", NONE, Edges::lived, x -> x.trace(39));
        refused(33, "i 40", NONE, Edges::lived, x -> x.trace(40));
        refused(33, "the least int", NONE, Edges::lived, x -> x.trace(MIN));
        refused(33, "the greatest int", NONE, Edges::lived, x -> x.trace(MAX));
        onlyAsks(33, "trace(10)", 12, x -> x.trace(10));
    }

    private static void sheet() {
        edge(34, "SHEETS are 0 to 3, of 8, 16, 32 bits", () -> {
            NineWells x = new NineWells();
            for (int s = 0; s <= 3; s++) {
                for (int bits = 8; bits <= 32; bits *= 2) due("sheet(" + s + ", " + bits + ", 1)", x.sheet(s, bits, 1), 1);
                due("put(" + s + ", 0, 0)", x.put(s, 0, 0), 1);
            }
        });
        edge(34, "n is 0 at least", () -> {
            NineWells x = new NineWells();
            due("sheet(0, 8, 0)", x.sheet(0, 8, 0), 1);
            due("put(0, 0, 0)", x.put(0, 0, 0), BEYOND);
            due("goings(0)", x.goings(0), 0);
        });
        edge(34, "n is 40 at most", () -> {
            for (int bits = 8; bits <= 32; bits *= 2) {
                NineWells x = new NineWells();
                due("sheet(3, " + bits + ", 40)", x.sheet(3, bits, 40), 1);
                due("put(3, 39, 0)", x.put(3, 39, 0), 1);
                due("put(3, 40, 0)", x.put(3, 40, 0), BEYOND);
                due("sheet(3, " + bits + ", 41)", x.sheet(3, bits, 41), BEYOND);
            }
        });
        edge(34, "all 0, where others stood", () -> {
            NineWells x = fresh(9);
            row(x, 0, 8, 1, 5, 2, 6);
            x.sheet(0, 8, 4);
            x.put(0, 1, 1);
            due("goings(0)", x.goings(0), 1);
            due("ofWell(0, 0)", x.ofWell(0, 0), 0);
            row(x, 0, 8, 3, 5, 4, 6);
            x.sheet(0, 8, 2);
            x.sheet(0, 8, 4);
            x.put(0, 1, 2);
            x.put(0, 3, 3);
            due("goings(0)", x.goings(0), 2);
            due("ofWell(0, ..)", x.ofWell(0, 0) * 10 + x.ofWell(0, 1), 2);
            due("ofWell(1, ..)", x.ofWell(1, 0) * 10 + x.ofWell(1, 1), 3);
        });
        edge(34, "0 bits: it is missing, n doesn't matter", () -> {
            for (int n : new int[] {MIN, -1, 0, 1, 40, 41, MAX}) {
                NineWells x = new NineWells();
                x.sheet(2, 16, 5);
                due("sheet(2, 0, " + n + ")", x.sheet(2, 0, n), 1);
                due("put(2, 0, 0)", x.put(2, 0, 0), NONE);
                due("sheet(2, 0, " + n + ") of one that is missing", x.sheet(2, 0, n), 1);
                for (int k = 1; k <= 5; k++) due("told(" + k + ")", x.told(k), k == 2 ? 1 : 0);
            }
        });
        edge(34, "the other SHEETS stay", () -> {
            NineWells x = fresh(2);
            row(x, 0, 8, 1, 5);
            row(x, 2, 8, 1, 7);
            x.sheet(1, 8, 9);
            due("goings(0)", x.goings(0) * 10 + x.ofWell(0, 1), 15);
            due("goings(2)", x.goings(2) * 10 + x.ofWell(0, 1), 17);
            due("goings(3)", x.goings(3), NONE);
        });
        beyond(34, "SHEET -1", x -> x.sheet(-1, 8, 1));
        beyond(34, "SHEET 4", x -> x.sheet(4, 8, 1));
        beyond(34, "the least int for a SHEET", x -> x.sheet(MIN, 8, 1));
        beyond(34, "the greatest int for a SHEET", x -> x.sheet(MAX, 8, 1));
        beyond(34, "SHEET 4 with 0 bits", x -> x.sheet(4, 0, 1));
        for (int bits : new int[] {MIN, -32, -8, -1, 1, 4, 7, 9, 15, 17, 24, 31, 33, 40, 64, 264, MAX}) {
            int of = bits;
            beyond(34, bits + " bits", x -> x.sheet(0, of, 1));
        }
        beyond(34, "n 41", x -> x.sheet(0, 8, 41));
        beyond(34, "the greatest int for n", x -> x.sheet(0, 32, MAX));
        refused(34, "n -1", STATE, Edges::lived, x -> x.sheet(0, 8, -1));
        refused(34, "the least int for n", STATE, Edges::lived, x -> x.sheet(0, 16, MIN));
        refused(34, "n -1 for one that is missing", STATE, Edges::lived, x -> x.sheet(3, 32, -1));
        beyond(34, "SHEET -1 ahead of STATE", x -> x.sheet(-1, 8, -1));
        beyond(34, "SHEET 4 ahead of STATE", x -> x.sheet(4, 8, -1));
        beyond(34, "7 bits ahead of STATE", x -> x.sheet(0, 7, -1));
    }

    /** What a SHEET of so many bits has of a number, as where a GOING leads (-1: none, -2: it isn't as told). */
    private static int kept(int bits, int v) {
        NineWells x = fresh(9);
        x.going(0, 8, 1);
        row(x, 0, bits, v, 30);
        return x.goings(0) == 0 ? -2 : x.ofWell(0, 0);
    }

    private static void put() {
        edge(35, "number 0 and the last", () -> {
            NineWells x = fresh(9);
            x.sheet(0, 32, 40);
            due("put(0, 0, 7)", x.put(0, 0, 7), 1);
            due("put(0, 39, 9)", x.put(0, 39, 9), 1);
            x.move(0, 39, 0, 1, 1);
            due("goings(0)", x.goings(0), 1);
            due("ofWell(0, ..)", x.ofWell(0, 0) * 10 + x.ofWell(0, 1), 79);
        });
        edge(35, "its lowest 8 bits, with a sign", () -> {
            int[] v = {-1, 255, 256, 257, 264, -255, 65535, MAX, MIN, MIN + 3, 127, 128, -128, -129}, want = {-1, -1, 0, 1, 8, 1, -1, -1, 0, 3, -2, -2, -2, -2};
            for (int i = 0; i < v.length; i++) due("of " + v[i], kept(8, v[i]), want[i]);
        });
        edge(35, "its lowest 16 bits, with a sign", () -> {
            int[] v = {-1, 255, 257, 65535, 65536, 65537, 65544, -65535, MAX, MIN, MIN + 3, 32767, 32768}, want = {-1, -2, -2, -1, 0, 1, 8, 1, -1, 0, 3, -2, -2};
            for (int i = 0; i < v.length; i++) due("of " + v[i], kept(16, v[i]), want[i]);
        });
        edge(35, "all 32 bits", () -> {
            int[] v = {-1, 0, 8, 255, 256, 65535, 65536, 65537, MAX, MIN, MIN + 3}, want = {-1, 0, 8, -2, -2, -2, -2, -2, -2, -2, -2};
            for (int i = 0; i < v.length; i++) due("of " + v[i], kept(32, v[i]), want[i]);
        });
        edge(35, "the other numbers stay", () -> {
            NineWells x = fresh(2);
            row(x, 0, 8, 1, 5, 0, 6);
            x.put(0, 1, 9);
            due("goings(0)", x.goings(0), 2);
            due("ofWell(0, ..)", x.ofWell(0, 0) * 10 + x.ofWell(0, 1), 19);
            due("ofWell(1, ..)", x.ofWell(1, 0) * 10 + x.ofWell(1, 1), 6);
        });
        beyond(35, "SHEET -1", x -> x.put(-1, 0, 1));
        beyond(35, "SHEET 4", x -> x.put(4, 0, 1));
        beyond(35, "the least int for a SHEET", x -> x.put(MIN, 0, 1));
        beyond(35, "the greatest int for a SHEET", x -> x.put(MAX, 0, 1));
        beyond(35, "number -1", x -> x.put(0, -1, 1));
        beyond(35, "the number behind the last", x -> x.put(0, 6, 1));
        beyond(35, "the least int for a number", x -> x.put(0, MIN, 1));
        beyond(35, "the greatest int for a number", x -> x.put(0, MAX, 1));
        refused(35, "number 40 of forty", BEYOND, Edges::brim, x -> x.put(0, 40, 1));
        refused(35, "one that is missing", NONE, Edges::lived, x -> x.put(3, 0, 1));
        refused(35, "one that is missing, ahead of a number that there isn't", NONE, Edges::lived, x -> x.put(3, -1, 1));
        refused(35, "one that is missing, ahead of number 40", NONE, Edges::lived, x -> x.put(3, 40, 1));
    }

    private static NineWells countingUp() {
        NineWells x = fresh(9);
        row(x, 0, 8, 1, 2, 3, 4, 5, 6, 7, 8);
        return x;
    }

    private static String twos(NineWells x, int sheet, int n) {
        StringBuilder b = new StringBuilder();
        b.append(x.goings(sheet)).append(':');
        for (int w = 0; w < n; w++) b.append(' ').append(x.ofWell(w, 0)).append(' ').append(x.ofWell(w, 1));
        return b.toString();
    }

    private static void move() {
        edge(36, "none at all: n 0, at the first number and behind the last", () -> {
            NineWells x = countingUp();
            x.sheet(1, 8, 0);
            due("move(0, 0, 1, 0, 0)", x.move(0, 0, 1, 0, 0), 0);
            due("move(0, 8, 1, 0, 0)", x.move(0, 8, 1, 0, 0), 0);
            due("move(1, 0, 0, 8, 0)", x.move(1, 0, 0, 8, 0), 0);
            due("moves of none", twos(x, 0, 4), "4: 1 2 3 4 5 6 7 8");
        });
        edge(36, "all forty to another one", () -> {
            NineWells x = fresh(9);
            x.sheet(0, 16, 40);
            x.sheet(3, 16, 40);
            for (int i = 0; i < 18; i++) x.put(0, i, i % 2 == 0 ? i / 2 : i + 12);
            due("move(0, 0, 3, 0, 40)", x.move(0, 0, 3, 0, 40), 40);
            due("the other one", twos(x, 3, 9), twos(x, 0, 9));
            due("the other one", twos(x, 3, 9), "9: 0 13 1 15 2 17 3 19 4 21 5 23 6 25 7 27 8 29");
        });
        edge(36, "the last one number to the last place, and to the first", () -> {
            NineWells x = countingUp();
            due("move(0, 7, 0, 0, 1)", x.move(0, 7, 0, 0, 1), 1);
            due("move(0, 6, 0, 7, 1)", x.move(0, 6, 0, 7, 1), 1);
            due("the moves", twos(x, 0, 4), "4: 8 2 3 4 5 6 7 7");
        });
        edge(36, "onto itself upwards, as they all were", () -> {
            NineWells x = countingUp();
            due("move(0, 0, 0, 1, 7)", x.move(0, 0, 0, 1, 7), 7);
            due("the move", twos(x, 0, 4), "4: 1 1 2 3 4 5 6 7");
        });
        edge(36, "onto itself downwards, as they all were", () -> {
            NineWells x = countingUp();
            due("move(0, 1, 0, 0, 7)", x.move(0, 1, 0, 0, 7), 7);
            due("the move", twos(x, 0, 4), "4: 2 3 4 5 6 7 8 8");
        });
        edge(36, "onto itself in place", () -> {
            NineWells x = countingUp();
            due("move(0, 0, 0, 0, 8)", x.move(0, 0, 0, 0, 8), 8);
            due("the move", twos(x, 0, 4), "4: 1 2 3 4 5 6 7 8");
        });
        edge(36, "those of the first SHEET stay, and so do others of the other one", () -> {
            NineWells x = countingUp();
            row(x, 1, 8, 8, 9, 8, 9, 8, 9);
            due("move(0, 3, 1, 2, 2)", x.move(0, 3, 1, 2, 2), 2);
            due("the other one", twos(x, 1, 3), "3: 8 9 4 5 8 9");
            due("the first one", twos(x, 0, 4), "4: 1 2 3 4 5 6 7 8");
        });
        edge(36, "as many as stand there, not one more: of the first, of the other", () -> {
            NineWells x = countingUp();
            x.sheet(1, 8, 5);
            due("move(0, 3, 1, 0, 5)", x.move(0, 3, 1, 0, 5), 5);
            due("move(0, 4, 1, 0, 5)", x.move(0, 4, 1, 0, 5), BEYOND);
            due("move(0, 0, 1, 1, 4)", x.move(0, 0, 1, 1, 4), 4);
            due("move(0, 0, 1, 1, 5)", x.move(0, 0, 1, 1, 5), BEYOND);
            due("move(0, 0, 1, 0, 6)", x.move(0, 0, 1, 0, 6), BEYOND);
        });
        edge(36, "between SHEETS of 16 and of 32 bits", () -> {
            for (int bits = 16; bits <= 32; bits *= 2) {
                NineWells x = fresh(9);
                row(x, 0, bits, 8, 30);
                x.sheet(1, bits, 2);
                due("move(0, 0, 1, 0, 2)", x.move(0, 0, 1, 0, 2), 2);
                due("the move", twos(x, 1, 1), "1: 8 30");
            }
        });
        wrongMoves();
    }

    private static void wrongMoves() {
        beyond(36, "SHEET -1", x -> x.move(-1, 0, 0, 0, 1));
        beyond(36, "SHEET 4", x -> x.move(4, 0, 0, 0, 1));
        beyond(36, "other -1", x -> x.move(0, 0, -1, 0, 1));
        beyond(36, "other 4", x -> x.move(0, 0, 4, 0, 1));
        beyond(36, "the least and the greatest int for SHEETS", x -> x.move(MIN, 0, MAX, 0, 1));
        beyond(36, "SHEET 4 ahead of the other that is missing", x -> x.move(4, 0, 3, 0, 1));
        beyond(36, "other 4 ahead of one that is missing", x -> x.move(3, 0, 4, 0, 1));
        refused(36, "one that is missing", NONE, Edges::lived, x -> x.move(3, 0, 0, 0, 1));
        refused(36, "the other missing", NONE, Edges::lived, x -> x.move(0, 0, 3, 0, 1));
        refused(36, "one that is missing onto itself", NONE, Edges::lived, x -> x.move(3, 0, 3, 0, 0));
        refused(36, "one that is missing, ahead of n -1", NONE, Edges::lived, x -> x.move(3, -1, 0, -1, -1));
        refused(36, "the other missing, ahead of n -1", NONE, Edges::lived, x -> x.move(1, -1, 3, -1, -1));
        refused(36, "8 bits to 16", KIND, Edges::lived, x -> x.move(0, 0, 1, 0, 1));
        refused(36, "16 bits to 8", KIND, Edges::lived, x -> x.move(1, 0, 0, 0, 1));
        refused(36, "unlike bits, none at all", KIND, Edges::lived, x -> x.move(1, 0, 2, 0, 0));
        refused(36, "unlike bits, ahead of n -1", KIND, Edges::lived, x -> x.move(0, 0, 1, 0, -1));
        refused(36, "unlike bits, ahead of i -1", KIND, Edges::lived, x -> x.move(0, -1, 1, 0, 1));
        refused(36, "unlike bits, ahead of n 99", KIND, Edges::lived, x -> x.move(0, 0, 1, 99, 99));
        beyond(36, "n -1", x -> x.move(0, 1, 2, 1, -1));
        beyond(36, "i -1", x -> x.move(0, -1, 2, 0, 1));
        beyond(36, "j -1", x -> x.move(0, 0, 2, -1, 1));
        beyond(36, "i -1, none at all", x -> x.move(0, -1, 2, 0, 0));
        beyond(36, "j -1, none at all", x -> x.move(0, 0, 2, -1, 0));
        beyond(36, "one more than stand in the SHEET", x -> x.move(2, 0, 0, 0, 6));
        beyond(36, "one more than stand in the other", x -> x.move(0, 0, 2, 0, 6));
        beyond(36, "the number behind the last", x -> x.move(0, 6, 2, 0, 1));
        beyond(36, "to the place behind the last", x -> x.move(0, 0, 2, 5, 1));
        beyond(36, "none at all, from a place further than behind the last", x -> x.move(0, 7, 2, 0, 0));
        beyond(36, "none at all, to a place further than behind the last", x -> x.move(0, 0, 2, 6, 0));
        beyond(36, "the greatest int for n, where i and n go round", x -> x.move(0, 1, 0, 0, MAX));
        beyond(36, "the greatest int for n, where j and n go round", x -> x.move(0, 0, 0, 1, MAX));
        beyond(36, "the greatest int for i", x -> x.move(0, MAX, 0, 0, 1));
        beyond(36, "the greatest int for j", x -> x.move(0, 0, 0, MAX, 1));
        beyond(36, "the least int for i, j, n", x -> x.move(0, MIN, 0, MIN, MIN));
    }

    private static void restored(String what, ToIntFunction<NineWells> change, int answer) {
        Supplier<NineWells> made = () -> { NineWells x = lived(); x.image(); return x; };
        edge(38, what + " is as the IMAGE has it", () -> {
            for (Function<NineWells, String> look : LOOKS) {
                NineWells x = made.get(), y = made.get();
                due(what, change.applyAsInt(x), answer);
                due("restore()", x.restore(), 3);
                due("restore()", look.apply(x), look.apply(y));
            }
        });
    }

    private static void image() {
        edge(37, "how often: 1, 2, .., whatever restore() does between", () -> {
            NineWells x = fresh(1);
            x.restore();
            due("image()", x.image(), 1);
            due("image()", x.image(), 2);
            x.restore();
            due("image()", x.image(), 3);
        });
        edge(37, "of a new object", () -> {
            NineWells x = new NineWells();
            due("image()", x.image(), 1);
            x.well();
            x.thing(0, 0);
            x.seed(5);
            due("restore()", x.restore(), 0);
            due("all as at first", whatIsAsked(x), whatIsAsked(new NineWells()));
        });
        edge(37, "of all that is full, on the last DAY", () -> {
            NineWells x = brim(), y = brim();
            x.image();
            x.forget();
            x.text(0);
            x.check(0);
            x.fish(2);
            x.floods(100);
            due("restore()", x.restore(), 2);
            due("restore()", whatIsAsked(x), whatIsAsked(y));
            NineWells z = late();
            z.image();
            z.seed(4);
            due("restore()", z.restore(), 9999);
        });
        edge(37, "in place of one ahead", () -> {
            NineWells x = fresh(1);
            x.image();
            x.days(5);
            x.image();
            x.days(1);
            due("restore()", x.restore(), 5);
        });
        edge(37, "it changes nothing that is kept", () -> {
            NineWells x = lived(), y = lived();
            due("image()", x.image(), 2);
            due("image()", whatIsAsked(x), whatIsAsked(y));
        });
    }

    private static void restore() {
        restored("well()", x -> x.well(), 5);
        restored("where a GOING leads, and its DAYS", x -> x.going(0, 2, 30), 1);
        restored("the DAYS of a GOING", x -> x.going(0, 1, 30), 1);
        restored("a TOLL", x -> x.set(0, 0, 99), 0);
        restored("FISHES", x -> x.set(0, 1, 1), 0);
        restored("what goings() told", x -> x.goings(0), 3);
        restored("thing()", x -> x.thing(6, 30), 7);
        restored("a THING that was let down", x -> x.let(5, 0), 1);
        restored("a THING that was fished out", x -> x.fish(4), 4);
        restored("THE TAPE, with more bytes", x -> x.feed('9', 1), 5);
        restored("THE TAPE, emptied and other bytes on it", x -> x.text(0) + x.feed(0x3131, 2), -12);
        restored("SLOWS", x -> { x.feed('k', 1); return x.text(0); }, 1);
        restored("TAKES", x -> { x.feed('0', 1); return x.text(1); }, 1);
        restored("TODAY and what DAYS did", x -> x.days(100), 103);
        restored("z and what FLOODED DAYS did", x -> x.floods(9), 12);
        restored("FINDS, with one more", x -> x.find(0, 0, 9), 3);
        restored("FINDS, without them", x -> x.forget(), 3);
        restored("FINDS, with others in their place", x -> x.forget() + x.find(2, 1, 7) + x.find(4, 1, 7) + x.find(4, 0, 99), 6);
        restored("z", x -> x.seed(MAX), -5);
        restored("numbers that wait, with one more", x -> x.tell(9), 6);
        restored("numbers that wait, without them", x -> x.check(0), 0);
        restored("numbers that wait, with others in their place", x -> x.check(0) + x.tell(7) + x.tell(7) + x.tell(7) + x.tell(7) + x.tell(7), 15);
        edge(38, "SHEETS aren't in it", () -> {
            NineWells x = fresh(2);
            row(x, 0, 8, 1, 5);
            x.image();
            x.put(0, 1, 6);
            x.sheet(1, 16, 3);
            x.restore();
            due("goings(0)", x.goings(0) * 10 + x.ofWell(0, 1), 16);
            due("put(1, 2, 0)", x.put(1, 2, 0), 1);
            x.sheet(0, 0, 0);
            x.restore();
            due("goings(0)", x.goings(0), NONE);
        });
        edge(38, "THE TRACE isn't in it", () -> {
            NineWells x = numbered(0, 6, 0);
            x.voice(0, 3, 1);
            x.image();
            x.voice(0, 2, 1);
            x.restore();
            due("count(7)", x.count(7), 1);
            due("trace(0)", x.trace(0), 12);
        });
        edge(38, "what told() tells isn't in it", () -> {
            NineWells x = fresh(9);
            x.well();
            x.image();
            x.well();
            x.count(9);
            x.restore();
            due("told(4)", x.told(4), 2);
            due("told(1)", x.told(1), 1);
        });
        edge(38, "how often image() was done isn't in it", () -> {
            NineWells x = new NineWells();
            x.image();
            x.image();
            x.restore();
            due("image()", x.image(), 3);
        });
        edge(38, "the IMAGE stays: once more, and behind other changes", () -> {
            NineWells x = lived(), y = lived();
            y.restore();
            for (int i = 0; i < 2; i++) {
                due("restore()", x.restore(), 1);
                due("restore()", whatIsAsked(x), whatIsAsked(y));
                x.days(7);
                x.going(0, 3, 9);
                x.seed(i);
                x.forget();
                text(x, 0, "5");
                x.tell(i);
                x.thing(0, 0);
            }
        });
        edge(38, "TODAY, also that of DAY 0 and of DAY 9999", () -> {
            NineWells x = new NineWells();
            x.image();
            x.days(1);
            due("restore()", x.restore(), 0);
            goTo(x, 9999);
            x.image();
            due("restore()", x.restore(), 9999);
        });
        refused(38, "none, of a new object", NONE, NineWells::new, x -> x.restore());
        refused(38, "none, though there is something of all", NONE, RestEdgesTest::withoutImage, x -> x.restore());
    }

    private static NineWells withoutImage() {
        NineWells x = fresh(3);
        x.going(0, 1, 3);
        letNew(x, 0, 0, 0);
        x.find(0, 1, 3);
        text(x, 0, "w");
        write(x, "1+");
        row(x, 0, 8, 1, 2);
        x.seed(8);
        x.voice(0, 3, 3);
        x.days(3);
        x.tell(1);
        return x;
    }

    private static void tell() {
        edge(39, "how many: from 1 to 20", () -> {
            NineWells x = new NineWells();
            for (int i = 1; i <= 20; i++) due("tell(" + i + ")", x.tell(i), i);
            due("tell(21)", x.tell(21), FULL);
            due("count(6)", x.count(6), 20);
        });
        edge(39, "any number waits", () -> {
            NineWells x = numbered(0, 0, 0);
            int[] v = {MIN, BEYOND, -2, 0, 9, MAX};
            for (int i = 0; i < v.length; i++) {
                due("tell(" + v[i] + ")", x.tell(v[i]), 1);
                due("check(0)", x.check(0), 1);
            }
        });
        edge(39, "behind check() there is room for 20 again", () -> {
            NineWells x = brim();
            x.check(0);
            for (int i = 1; i <= 20; i++) due("tell(0)", x.tell(0), i);
            due("tell(0)", x.tell(0), FULL);
        });
        refused(39, "a 21st number", FULL, Edges::brim, x -> x.tell(0));
        refused(39, "the least int as a 21st", FULL, Edges::brim, x -> x.tell(MIN));
    }

    /** THING 0 is in WELL 8 on each fifth DAY, below else. */
    private static NineWells eachFifth() {
        NineWells x = fresh(9);
        x.going(8, 8, 4);
        letNew(x, 0, 0, 8);
        return x;
    }

    private static void check() {
        edge(40, "no numbers: 0", () -> due("check(0)", numbered(0, 0, 0).check(0), 0));
        edge(40, "one number: 0, or 1 for place 0", () -> {
            NineWells x = eachFifth();
            x.tell(-1);
            due("check(0) of -1", x.check(0), 0);
            x.tell(8);
            due("check(0) of 8, where it is TODAY", x.check(0), 1);
        });
        edge(40, "twenty numbers: all so", () -> {
            NineWells x = eachFifth();
            for (int i = 1; i <= 20; i++) x.tell(i % 5 == 0 ? 8 : -1);
            due("check(0)", x.check(0), 0);
        });
        edge(40, "twenty numbers: 1 and the place of the first that isn't so, be it any", () -> {
            for (int wrong = 1; wrong <= 20; wrong++) {
                NineWells x = eachFifth();
                for (int i = 1; i <= 20; i++) x.tell(i >= wrong ? 7 : i % 5 == 0 ? 8 : -1);
                due("check(0), the wrong from place " + (wrong - 1) + " on", x.check(0), wrong);
            }
        });
        edge(40, "for as many DAYS as there are numbers: not one more", () -> {
            NineWells x = eachFifth();
            for (int i = 1; i <= 4; i++) x.tell(-1);
            due("check(0), 4 numbers", x.check(0), 0);
            for (int i = 1; i <= 5; i++) x.tell(-1);
            due("check(0), 5 numbers", x.check(0), 5);
        });
        edge(40, "-1: below, and out (at nobody's, at a WELL)", () -> {
            NineWells x = fresh(2);
            x.thing(0, 0);
            x.tell(-1);
            due("check(0), out at nobody's", x.check(0), 0);
            x.let(0, 1);
            x.tell(-1);
            due("check(0), in 1", x.check(0), 1);
            x.fish(0);
            x.tell(-1);
            due("check(0), out at 1", x.check(0), 0);
            x.tell(1);
            due("check(0), it isn't in 1", x.check(0), 1);
            x.going(0, 1, 9);
            x.let(0, 0);
            x.tell(-1);
            x.tell(1);
            due("check(0), below", x.check(0), 2);
        });
        edge(40, "another below 0 isn't so, nor is one from 9 on", () -> {
            for (int v : new int[] {MIN, -2, 9, 10, MAX}) {
                NineWells x = numbered(0, 0, 0);
                x.tell(v);
                due("check(0) of " + v, x.check(0), 1);
            }
        });
        edge(40, "none wait then, be it so or not", () -> {
            NineWells x = eachFifth();
            x.tell(-1);
            x.check(0);
            due("count(6)", x.count(6), 0);
            x.tell(3);
            x.tell(3);
            x.check(0);
            due("count(6)", x.count(6), 0);
            due("tell(-1)", x.tell(-1), 1);
            due("check(0)", x.check(0), 0);
        });
        edge(40, "AHEAD: no DAY goes by, and all else stays", () -> {
            NineWells x = lived(), y = lived();
            due("check(0)", x.check(0), 0);
            for (int i = 1; i <= 5; i++) x.tell(0);
            due("check(0)", whatIsAsked(x), whatIsAsked(y));
        });
        edge(40, "beyond DAY 9999, too", () -> {
            NineWells x = late();
            due("check(0)", x.check(0), 0);
            x.going(0, 0, 1);
            x.fish(1);
            x.let(1, 0);
            int[] where = {-1, 0, -1, 0};
            for (int w : where) x.tell(w);
            due("check(1)", x.check(1), 0);
        });
        Supplier<NineWells> emptied = () -> { NineWells x = lived(); x.check(0); return x; };
        refusedAs(40, "THING -1 (none wait then, too)", BEYOND, Edges::lived, x -> x.check(-1), emptied);
        refusedAs(40, "the THING behind the last (none wait then, too)", BEYOND, Edges::lived, x -> x.check(7), emptied);
        refusedAs(40, "the least int for a THING (none wait then, too)", BEYOND, Edges::lived, x -> x.check(MIN), emptied);
        refusedAs(40, "the greatest int for a THING (none wait then, too)", BEYOND, Edges::lived, x -> x.check(MAX), emptied);
        refusedAs(40, "THING 10 with 20 that wait (none wait then, too)", BEYOND, Edges::brim, x -> x.check(10), () -> { NineWells x = brim(); x.check(0); return x; });
        refused(40, "THING 0 of none, and none wait", BEYOND, NineWells::new, x -> x.check(0));
    }

    private static void count() {
        edge(41, "what is 0 to 8: the least", () -> {
            for (int k = 0; k <= 8; k++) due("count(" + k + ")", new NineWells().count(k), k == 8 ? 1 : 0);
        });
        edge(41, "what is 0 to 8: all that is full", () -> {
            int[] want = {2, 9, 10, 2, 12, 50, 20, 7, 1};
            for (int k = 0; k <= 8; k++) due("count(" + k + ")", brim().count(k), want[k]);
        });
        edge(41, "TODAY, the last DAY", () -> due("count(0)", late().count(0), 9999));
        edge(41, "those out: at nobody's and at WELLS, not those below or in a WELL", () -> {
            NineWells x = fresh(2);
            x.going(0, 1, 9);
            for (int t = 0; t < 4; t++) x.thing(0, 0);
            due("count(3)", x.count(3), 4);
            x.let(0, 0);
            due("count(3), one in a WELL", x.count(3), 3);
            x.days(1);
            due("count(3), one below", x.count(3), 3);
            x.let(1, 1);
            x.fish(1);
            due("count(3), one out at a WELL", x.count(3), 3);
        });
        edge(41, "z is any number, and no ERROR", () -> {
            NineWells x = new NineWells();
            x.seed(STATE);
            due("count(8)", x.count(8), STATE);
            due("told(3)", x.told(3), 0);
        });
        beyond(41, "what -1", x -> x.count(-1));
        beyond(41, "what 9", x -> x.count(9));
        beyond(41, "the least int for what", x -> x.count(MIN));
        beyond(41, "the greatest int for what", x -> x.count(MAX));
        onlyAsks(41, "count(7)", 11, x -> x.count(7));
    }

    private static void told() {
        edge(42, "k is 1 to 5, each counted for itself", () -> {
            for (int k = 1; k <= 5; k++) {
                NineWells x = fresh(9);
                x.thing(0, 0);
                for (int times = 1; times <= 3; times++) {
                    int answer = k == 1 ? x.count(9) : k == 2 ? x.trace(0) : k == 3 ? x.fish(0) : k == 4 ? x.well() : x.as(0, 1);
                    due("the act", answer, LOW - k);
                    for (int other = 1; other <= 5; other++) due("told(" + other + ")", x.told(other), other == k ? times : 0);
                }
            }
        });
        edge(42, "ERRORS are LOW less 1 to 5", () -> {
            NineWells x = fresh(9);
            x.thing(0, 0);
            due("BEYOND", x.count(9), -1000000001);
            due("NONE", x.trace(0), -1000000002);
            due("STATE", x.fish(0), -1000000003);
            due("FULL", x.well(), -1000000004);
            due("KIND", x.as(0, 1), -1000000005);
        });
        edge(42, "another k is counted, too", () -> {
            NineWells x = new NineWells();
            due("told(0)", x.told(0), BEYOND);
            due("told(1)", x.told(1), 1);
            due("told(6)", x.told(6), BEYOND);
            due("told(1)", x.told(1), 2);
            for (int k = 2; k <= 5; k++) due("told(" + k + ")", x.told(k), 0);
        });
        edge(42, "a FAULT, a 0, a -1 aren't counted", () -> {
            NineWells x = fresh(1);
            x.thing(0, 0);
            x.text(0);
            x.ofWell(0, 0);
            x.ofThing(0, 6);
            x.tell(5);
            x.check(0);
            x.forget();
            for (int k = 1; k <= 5; k++) due("told(" + k + ")", x.told(k), 0);
        });
        edge(42, "as often as 500 acts", () -> {
            NineWells x = new NineWells();
            for (int i = 0; i < 500; i++) x.restore();
            due("told(2)", x.told(2), 500);
        });
        beyond(42, "k 0", x -> x.told(0));
        beyond(42, "k 6", x -> x.told(6));
        beyond(42, "k -1", x -> x.told(-1));
        beyond(42, "the least int for k", x -> x.told(MIN));
        beyond(42, "the greatest int for k", x -> x.told(MAX));
        onlyAsks(42, "told(2)", 0, x -> x.told(2));
    }

    public static void main(String[] args) {
        seed();
        voice();
        trace();
        sheet();
        put();
        move();
        image();
        restore();
        tell();
        check();
        count();
        told();
        end("RestEdgesTest", 31, 42);
    }
}
