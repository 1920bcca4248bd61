/** The promises one by one: ordinary inputs, the edges that the document names, wrong inputs. */
public final class PromisesTest {
    private static final int LOW = -1000000000;
    private static final int BEYOND = LOW - 1, NONE = LOW - 2, STATE = LOW - 3, FULL = LOW - 4, KIND = LOW - 5;
    private static final int MIN = Integer.MIN_VALUE, MAX = Integer.MAX_VALUE;

    private static int passed;
    private static int failed;

    private static void due(String what, int got, int want) {
        if (got == want) {
            passed++;
        } else {
            failed++;
            System.out.println(what + ": answered " + got + ", due is " + want);
        }
    }

    private static NineWells wells(int n) {
        NineWells x = new NineWells();
        for (int i = 0; i < n; i++) x.well();
        return x;
    }

    private static void write(NineWells x, String s) {
        for (int i = 0; i < s.length(); i += 8) {
            int n = Math.min(8, s.length() - i);
            long word = 0;
            for (int k = n - 1; k >= 0; k--) word = word << 8 | s.charAt(i + k);
            x.feed(word, n);
        }
    }

    private static int text(NineWells x, int use, String s) {
        write(x, s);
        return x.text(use);
    }

    /** Whatever can be asked without changing anything but told(). */
    private static String seenOf(NineWells x) {
        StringBuilder b = new StringBuilder();
        for (int k = 0; k <= 8; k++) b.append(x.count(k)).append(' ');
        for (int w = 0; w < x.count(1); w++) for (int k = 0; k <= 5; k++) b.append(x.ofWell(w, k)).append(' ');
        for (int t = 0; t < x.count(2); t++) for (int k = 0; k <= 7; k++) b.append(x.ofThing(t, k)).append(' ');
        for (int t = 0; t < x.count(2); t++) b.append(x.then(40, t, 3)).append(' ');
        for (int f = 0; f < x.count(4); f++) b.append(x.agrees(f)).append(' ');
        for (int w = 0; w < x.count(1); w++) b.append(x.belows(w, 5, 0)).append(' ');
        for (int i = 0; i < x.count(7); i++) b.append(x.trace(i)).append(' ');
        b.append(x.law(0, 1, 2, 3, 4)).append(' ').append(x.law(1, 1, 2, 3, 4));
        return b.toString();
    }

    private static void same(String what, String got, String want) {
        due(what + " changes nothing", got.equals(want) ? 1 : 0, 1);
    }

    private static void aNewObject() {
        NineWells x = new NineWells();
        for (int k = 1; k <= 5; k++) due("1: told", x.told(k), 0);
        for (int k = 0; k <= 7; k++) due("1: count", x.count(k), 0);
        due("1: z", x.count(8), 1);
        due("1: no well", x.ofWell(0, 0), BEYOND);
        due("1: no thing", x.ofThing(0, 0), BEYOND);
        due("1: no find", x.agrees(0), BEYOND);
        due("1: no trace", x.trace(0), NONE);
        due("1: no image", x.restore(), NONE);
        for (int s = 0; s < 4; s++) due("1: no sheet", x.goings(s), NONE);
        due("1: no slows", x.law(0, 9, 9, 9, 9), 0);
        due("1: no takes", x.law(1, 9, 9, 9, 9), 1);
    }

    private static void well() {
        NineWells x = new NineWells();
        for (int i = 0; i < 9; i++) due("2: well", x.well(), i);
        due("2: full", x.well(), FULL);
        due("2: nine", x.count(1), 9);
        int[] first = {-1, 1, 0, 0, 0, 0};
        for (int k = 0; k < 6; k++) due("2: as at first", x.ofWell(8, k), first[k]);
    }

    private static void going() {
        NineWells x = wells(3);
        due("3: led nowhere", x.going(0, 2, 30), -1);
        due("3: led to 2", x.going(0, 0, 1), 2);
        due("3: to itself", x.ofWell(0, 0), 0);
        due("3: to none", x.going(0, -1, 7), 0);
        due("3: none", x.ofWell(0, 0), -1);
        due("3: its days all the same", x.ofWell(0, 1), 7);
        int[][] wrong = {{-1, 0, 1}, {3, 0, 1}, {MIN, 0, 1}, {0, -2, 1}, {0, 3, 1}, {0, MAX, 1}, {0, 1, 0}, {0, 1, 31}, {0, -1, 0}, {0, -1, 31}, {0, 1, MIN}};
        for (int[] w : wrong) due("3: beyond", x.going(w[0], w[1], w[2]), BEYOND);
        due("3: as it was", x.ofWell(0, 0) * 100 + x.ofWell(0, 1), -100 + 7);
    }

    private static void set() {
        NineWells x = wells(2);
        due("4: toll", x.set(1, 0, 99), 0);
        due("4: toll was", x.set(1, 0, 5), 99);
        due("4: fishes", x.set(1, 1, 1), 0);
        due("4: fishes was", x.set(1, 1, 1), 1);
        due("4: toll is", x.ofWell(1, 2), 5);
        due("4: fishes is", x.ofWell(1, 3), 1);
        due("4: the other isn't", x.ofWell(0, 2) + x.ofWell(0, 3), 0);
        int[][] wrong = {{-1, 0, 1}, {2, 0, 1}, {0, -1, 1}, {0, 2, 1}, {0, 0, -1}, {0, 0, 100}, {0, 1, -1}, {0, 1, 2}, {MAX, MAX, MAX}};
        for (int[] w : wrong) due("4: beyond", x.set(w[0], w[1], w[2]), BEYOND);
        due("4: to nobody", x.set(1, 1, 0), 1);
    }

    private static void ofWell() {
        NineWells x = wells(2);
        for (int i = 0; i < 4; i++) x.thing(0, 0);
        x.going(0, 1, 4);
        x.let(0, 0);
        x.let(3, 0);
        x.let(2, 1);
        due("5: in 0", x.ofWell(0, 4), 9);
        due("5: in 1", x.ofWell(1, 4), 4);
        due("5: none on their way", x.ofWell(1, 5), 0);
        x.days(1);
        due("5: gone", x.ofWell(0, 4), 0);
        due("5: on their way to 1", x.ofWell(1, 5), 9);
        due("5: none to 0", x.ofWell(0, 5), 0);
        due("5: leads", x.ofWell(0, 0), 1);
        due("5: days", x.ofWell(0, 1), 4);
        int[][] wrong = {{-1, 0}, {2, 0}, {0, -1}, {0, 6}, {MIN, MAX}};
        for (int[] w : wrong) due("5: beyond", x.ofWell(w[0], w[1]), BEYOND);
    }

    private static void row(NineWells x, int sheet, int bits, int... v) {
        x.sheet(sheet, bits, v.length);
        for (int i = 0; i < v.length; i++) x.put(sheet, i, v[i]);
    }

    private static void goings() {
        NineWells x = wells(3);
        due("6: no such", x.goings(-1), BEYOND);
        due("6: no such", x.goings(4), BEYOND);
        due("6: missing", x.goings(0), NONE);
        row(x, 0, 8, 1, 2, 2, 30, -1, 1, 0, 9);
        due("6: as many as wells", x.goings(0), 3);
        due("6: first", x.ofWell(0, 0) * 100 + x.ofWell(0, 1), 102);
        due("6: second", x.ofWell(1, 0) * 100 + x.ofWell(1, 1), 230);
        due("6: third", x.ofWell(2, 0) * 100 + x.ofWell(2, 1), -99);
        row(x, 1, 16, 2, 5, 1);
        due("6: not whole", x.goings(1), 1);
        due("6: came", x.ofWell(0, 0), 2);
        due("6: didn't", x.ofWell(1, 0), 2);
        row(x, 2, 32, 0, 1, 0, 31, 0, 1);
        due("6: days beyond", x.goings(2), 1);
        row(x, 2, 32, 0, 1, 0, 0);
        due("6: days beyond", x.goings(2), 1);
        row(x, 2, 32, 3, 1);
        due("6: no such well", x.goings(2), 0);
        row(x, 2, 32, -2, 1);
        due("6: no such well", x.goings(2), 0);
        row(x, 3, 8, 257, 3, 255, 4);
        due("6: lowest bits, with a sign", x.goings(3), 2);
        due("6: 257 is 1", x.ofWell(0, 0), 1);
        due("6: 255 is -1", x.ofWell(1, 0), -1);
        row(x, 3, 16, 257, 3);
        due("6: 257 in 16 bits", x.goings(3), 0);
        row(x, 3, 16, 65537, 3, 65535, 4);
        due("6: 65537 is 1 in 16", x.goings(3), 2);
        row(x, 3, 32, 65537, 3);
        due("6: 65537 in 32 bits", x.goings(3), 0);
        x.sheet(3, 8, 0);
        due("6: empty", x.goings(3), 0);
        NineWells none = new NineWells();
        row(none, 0, 8, -1, 1);
        due("6: no wells", none.goings(0), 0);
    }

    private static void thing() {
        NineWells x = new NineWells();
        int[][] wrong = {{-1, 0}, {7, 0}, {0, -1}, {0, 31}, {MIN, MIN}};
        for (int[] w : wrong) due("7: beyond", x.thing(w[0], w[1]), BEYOND);
        for (int i = 0; i < 10; i++) due("7: thing", x.thing(i % 7, 3 * i), i);
        due("7: full", x.thing(0, 0), FULL);
        due("7: beyond ahead of full", x.thing(7, 0), BEYOND);
        int[] first = {2, 27, 2, -1, 0, 0, -1, 0};
        for (int k = 0; k < 8; k++) due("7: as at first", x.ofThing(9, k), first[k]);
    }

    private static void ofThing() {
        NineWells x = wells(2);
        x.thing(2, 2);
        x.let(0, 0);
        due("8: in a well", x.ofThing(0, 2), 0);
        due("8: that well", x.ofThing(0, 3), 0);
        due("8: leads to none", x.ofThing(0, 6), -1);
        due("8: stays all the same", x.ofThing(0, 7), 1);
        x.going(0, 1, 3);
        due("8: lasts", x.ofThing(0, 6), 5);
        x.going(0, 0, 3);
        due("8: lasts, to 0", x.ofThing(0, 6), 5);
        x.going(0, 1, 3);
        x.thing(0, 0);
        x.let(1, 0);
        due("8: one other isn't two", x.ofThing(0, 7), 1);
        x.thing(0, 0);
        x.let(2, 0);
        due("8: two others", x.ofThing(0, 7), 0);
        x.set(1, 0, 9);
        x.days(1);
        due("8: below", x.ofThing(0, 2), 1);
        due("8: on its way to", x.ofThing(0, 3), 1);
        due("8: days still", x.ofThing(0, 4), 5);
        due("8: lasts in none", x.ofThing(0, 6), -1);
        due("8: stays in none", x.ofThing(0, 7), 0);
        x.days(5);
        due("8: come up", x.ofThing(0, 2), 0);
        due("8: spent", x.ofThing(0, 5), 9);
        due("8: no days still", x.ofThing(0, 4), 0);
        x.fish(0);
        due("8: out", x.ofThing(0, 2), 2);
        due("8: fished out at", x.ofThing(0, 3), 1);
        int[][] wrong = {{-1, 0}, {3, 0}, {0, -1}, {0, 8}, {MAX, 0}};
        for (int[] w : wrong) due("8: beyond", x.ofThing(w[0], w[1]), BEYOND);
    }

    private static void as() {
        NineWells x = new NineWells();
        for (int k = 0; k < 7; k++) x.thing(k, k + 10);
        int[] above = {-1, 0, 0, 0, 1, 0, 2};
        for (int k = 0; k < 7; k++) {
            for (int as = 0; as < 7; as++) {
                boolean is = false;
                for (int up = k; up >= 0; up = above[up]) is |= up == as;
                due("9: " + k + " as " + as, x.as(k, as), is ? k + 10 : KIND);
            }
        }
        int[][] wrong = {{-1, 0}, {7, 0}, {0, -1}, {0, 7}};
        for (int[] w : wrong) due("9: beyond", x.as(w[0], w[1]), BEYOND);
    }

    private static void let() {
        NineWells x = wells(2);
        x.thing(0, 0);
        int[][] wrong = {{-1, 0}, {1, 0}, {0, -1}, {0, 2}};
        for (int[] w : wrong) due("10: beyond", x.let(w[0], w[1]), BEYOND);
        due("10: let", x.let(0, 1), 1);
        due("10: in", x.ofThing(0, 3), 1);
        due("10: it is in one", x.let(0, 0), STATE);
        due("10: beyond ahead of state", x.let(0, 2), BEYOND);
        x.going(1, 0, 5);
        x.days(2);
        due("10: it is below", x.let(0, 0), STATE);
        due("10: still below", x.ofThing(0, 4), 4);
    }

    private static void fish() {
        NineWells x = wells(2);
        x.thing(0, 0);
        due("11: beyond", x.fish(-1), BEYOND);
        due("11: beyond", x.fish(1), BEYOND);
        due("11: out already", x.fish(0), STATE);
        x.let(0, 1);
        due("11: fished", x.fish(0), 1);
        due("11: at that well", x.ofThing(0, 3), 1);
        due("11: no days still", x.ofThing(0, 4), 0);
        due("11: let again", x.let(0, 0), 1);
        due("11: no days still", x.ofThing(0, 4), 0);
        x.going(0, 1, 2);
        x.days(1);
        due("11: below", x.fish(0), STATE);
        x.days(2);
        due("11: come up", x.fish(0), 1);
    }

    private static void feed() {
        NineWells x = new NineWells();
        due("12: beyond", x.feed(0, 0), BEYOND);
        due("12: beyond", x.feed(0, 9), BEYOND);
        due("12: beyond", x.feed(0, MIN), BEYOND);
        due("12: lowest first", x.feed('5' | '-' << 8 | '3' << 16, 3), 3);
        due("12: text", x.text(1), 1);
        due("12: 5-3", x.law(1, 0, 0, 0, 0), 2);
        for (int i = 1; i <= 6; i++) due("12: eight", x.feed(-1L, 8), 8 * i);
        due("12: three more don't go", x.feed(0, 3), FULL);
        due("12: none of them came", x.count(5), 48);
        due("12: two do", x.feed(0, 2), 50);
        due("12: full", x.feed(0, 1), FULL);
        due("12: beyond ahead of full", x.feed(0, 9), BEYOND);
        NineWells y = new NineWells();
        y.feed(0x3837363534333231L, 8);
        due("12: all eight", y.text(0), -14);
        y.feed(0x302B302B302B3931L, 8);
        due("12: up to the highest", y.text(1), 1);
        due("12: 19+0+0+0", y.law(1, 0, 0, 0, 0), 19);
    }

    private static void text() {
        NineWells x = new NineWells();
        String[] faulty = {"", "1+", "12345", "1 2", "(1", "(1))", "1<2<3", "1<2=3", "!!!!!!1", "((((((1))))))", "!(!(!(1)))", "x", ")", "()",
            "1!", "w1", "1w", "!", "1++1", "1+(2", "1|", "1&", "1*", "-1", "(12345)", "(1<2>3)", "1\u00ff", "\0", "1(", "!)", "(((((!1)))))"};
        int[] places = {0, 2, 4, 1, 2, 3, 3, 3, 5, 5, 5, 0, 0, 1, 1, 1, 1, 1, 2, 4, 2, 2, 2, 0, 5, 4, 1, 0, 1, 1, 5};
        for (int i = 0; i < faulty.length; i++) {
            due("13: fault of " + faulty[i], text(x, 0, faulty[i]), -10 - places[i]);
            due("13: fault of " + faulty[i] + " as takes", text(x, 1, faulty[i]), -10 - places[i]);
            due("13: empty then", x.count(5), 0);
        }
        String[] whole = {"0", "0000", "9999", "!!!!!1", "(((((1)))))", "!(!(!1))", "!1&!1&!1&!1&!1&!1&!1", "(1)+(1)+(1)+(1)+(1)+(1)", "(1<2)<3", "w+k*t", "((((!1))))"};
        for (String s : whole) due("13: " + s, text(x, 1, s), 1);
        due("13: m of slows", text(x, 0, "m"), 1);
        due("13: s of slows", text(x, 0, "1+s"), -12);
        due("13: s of takes", text(x, 1, "s"), 1);
        due("13: m of takes", text(x, 1, "m"), -10);
        due("13: the one ahead stays", x.law(0, 0, 0, 0, 17), 17);
        due("13: the one ahead stays", x.law(1, 0, 0, 0, 17), 17);
        write(x, "1+1");
        due("13: beyond", x.text(2), BEYOND);
        due("13: beyond", x.text(-1), BEYOND);
        due("13: the tape stays", x.count(5), 3);
        due("13: in place of the one ahead", x.text(1), 1);
        due("13: 1+1", x.law(1, 0, 0, 0, 17), 2);
        String fifty = "1" + "+1".repeat(24) + "+";
        due("13: ends too early", text(x, 0, fifty), -60);
        due("13: no error", x.told(1) + x.told(2) + x.told(3) + x.told(4) + x.told(5), 2);
    }

    private static void law() {
        NineWells x = new NineWells();
        String[] texts = {"1+2*3", "7-2-1", "2*3%4", "9/2*2", "1|0&0", "3=3", "2>1", "1>2", "2>2", "(0|1)", "0", "1<1", "4&2", "4&0", "5|0", "0|0", "!5", "!0", "!!7", "!0+1", "(1+2)*3",
            "0-7/2", "(0-7)/2", "(0-7)%2", "7%(0-2)", "5/0", "5%0", "9999*9999*9999", "1+1<3", "1<2&2<1", "0=0|1/0", "5", "3-5", "1-(2-3)", "0010", "!(1<2)|4>3&0"};
        int[] worths = {7, 4, 2, 8, 1, 1, 1, 0, 0, 1, 0, 0, 1, 0, 1, 0, 0, 1, 1, 2, 9, -3, -3, -1, 1, 0, 0, 9999 * 9999 * 9999, 1, 0, 1, 5, -2, 2, 10, 0};
        for (int i = 0; i < texts.length; i++) {
            due("14: " + texts[i], text(x, 1, texts[i]), 1);
            due("14: " + texts[i], x.law(1, 0, 0, 0, 0), worths[i]);
        }
        text(x, 1, "w*1000+k*100+t*10+s");
        due("14: names in order", x.law(1, 1, 2, 3, 4), 1234);
        text(x, 1, "w/k");
        due("14: wraps", x.law(1, MIN, -1, 0, 0), MIN);
        text(x, 1, "w%k");
        due("14: no rest", x.law(1, MIN, -1, 0, 0), 0);
        text(x, 1, "w-k");
        due("14: wraps", x.law(1, MIN, 1, 0, 0), MAX);
        due("14: any number is no error", x.law(1, BEYOND, 0, 0, 0), BEYOND);
        due("14: and isn't counted", x.told(1), 0);
        text(x, 0, "w-k+t*m");
        due("14: slows", x.law(0, 9, 4, 3, 2), 11);
        due("14: 0 at least", x.law(0, 0, 1, 0, 0), 0);
        due("14: 30", x.law(0, 30, 0, 0, 0), 30);
        due("14: 30 at most", x.law(0, 31, 0, 0, 0), 30);
        due("14: beyond", x.law(2, 0, 0, 0, 0), BEYOND);
        due("14: beyond", x.law(-1, 0, 0, 0, 0), BEYOND);
    }

    private static void daysOfOneThing() {
        NineWells x = wells(3);
        x.going(0, 1, 3);
        x.going(1, 2, 1);
        x.set(1, 0, 7);
        x.thing(0, 0);
        x.let(0, 0);
        due("15: a day", x.days(1), 1);
        due("15: goes below, for all its days", x.ofThing(0, 4), 3);
        due("15: 2 days", x.days(2), 3);
        due("15: one still", x.ofThing(0, 4), 1);
        due("15: not up yet", x.ofThing(0, 5), 0);
        x.days(1);
        due("15: up", x.ofThing(0, 2) * 10 + x.ofThing(0, 3), 1);
        due("15: toll", x.ofThing(0, 5), 7);
        x.days(2);
        due("15: up in 2", x.ofThing(0, 2) * 10 + x.ofThing(0, 3), 2);
        x.days(100);
        due("15: leads to none", x.ofThing(0, 2) * 10 + x.ofThing(0, 3), 2);
        due("15: beyond", x.days(0), BEYOND);
        due("15: beyond", x.days(101), BEYOND);
        due("15: beyond", x.days(MIN), BEYOND);
        for (int i = 0; i < 98; i++) x.days(100);
        due("15: near the last", x.count(0), 9906);
        due("15: would be above", x.days(94), STATE);
        due("15: none went by", x.count(0), 9906);
        due("15: the last", x.days(93), 9999);
        due("15: no more", x.days(1), STATE);
        due("15: beyond ahead of state", x.days(101), BEYOND);
        due("15: floods no more", x.floods(1), STATE);
        due("15: ahead there are", x.then(200, 0, 3), 2);
    }

    private static void daysByTurns() {
        NineWells x = wells(2);
        x.going(0, 1, 4);
        x.thing(2, 1);
        x.thing(0, 0);
        x.thing(2, 1);
        for (int t = 0; t < 3; t++) x.let(t, 0);
        x.days(1);
        due("15: goes, two others are there", x.ofThing(0, 2), 1);
        due("15: goes", x.ofThing(1, 2), 1);
        due("15: stays, all others are gone", x.ofThing(2, 2), 0);
        NineWells y = wells(3);
        y.going(0, 2, 4);
        y.going(1, 2, 2);
        y.thing(5, 0);
        y.thing(0, 0);
        y.thing(5, 0);
        y.let(0, 0);
        y.let(1, 1);
        y.let(2, 1);
        due("15: a pair ahead", y.ofThing(2, 6), 2);
        y.days(1);
        due("15: a pair alone", y.ofThing(0, 4), 4);
        due("15: a pair behind two", y.ofThing(2, 4), 4);
        y.fish(0);
        y.thing(5, 0);
        y.let(3, 0);
        due("15: three are below", y.ofThing(3, 6), 7);
    }

    private static void daysAndWhoFishes() {
        NineWells x = wells(2);
        x.going(0, 1, 2);
        x.set(1, 0, 5);
        x.set(1, 1, 1);
        text(x, 1, "w=1&k=4&t=1&s=5");
        x.thing(4, 0);
        x.thing(0, 0);
        x.let(0, 0);
        x.let(1, 0);
        x.days(2);
        due("15: taken: its well, kind, today as it was, spent with the toll", x.ofThing(0, 2), 2);
        due("15: at that well", x.ofThing(0, 3), 1);
        x.days(1);
        due("15: another kind isn't", x.ofThing(1, 2), 0);
        due("15: out with its toll", x.ofThing(0, 5), 5);
        NineWells y = wells(1);
        y.going(0, 0, 1);
        y.set(0, 1, 1);
        y.thing(0, 0);
        y.let(0, 0);
        y.days(1);
        due("15: below ahead of being fished", y.ofThing(0, 2), 1);
        y.days(1);
        due("15: without a text all is taken", y.ofThing(0, 2), 2);
        NineWells z = wells(2);
        z.going(0, 1, 1);
        z.set(1, 1, 1);
        text(z, 1, "0-9");
        z.thing(0, 0);
        z.let(0, 0);
        z.days(2);
        due("15: what isn't 0 takes", z.ofThing(0, 2), 2);
    }

    private static void lastsAndStays() {
        NineWells x = wells(2);
        for (int k = 0; k < 7; k++) {
            x.thing(k, 4);
            x.let(k, 0);
        }
        x.going(0, 1, 1);
        int[] one = {1, 1, 5, 2, 1, 1, 5};
        for (int k = 0; k < 7; k++) due("8: lasts, 1 day, " + k, x.ofThing(k, 6), one[k]);
        x.going(0, 1, 30);
        int[] thirty = {30, 29, 34, 60, 29, 30, 34};
        for (int k = 0; k < 7; k++) due("8: lasts, 30 days, " + k, x.ofThing(k, 6), thirty[k]);
        text(x, 0, "k+w+t+m-4");
        for (int k = 0; k < 7; k++) due("8: slows comes to it, " + k, x.ofThing(k, 6), thirty[k] + k);
        x.going(0, -1, 30);
        x.going(1, 0, 30);
        for (int month = 0; month < 14; month++) {
            boolean cold = month % 12 < 2 || month % 12 == 11;
            due("8: cold in month " + month, x.ofThing(3, 7), cold ? 1 : 0);
            due("8: sunk on day " + x.count(0), x.ofThing(6, 7), x.count(0) % 7 == 0 ? 1 : 0);
            due("8: heavy with 4 never", x.ofThing(2, 7), 0);
            due("8: the others never", x.ofThing(0, 7) + x.ofThing(1, 7) + x.ofThing(4, 7) + x.ofThing(5, 7), 0);
            x.days(29);
            due("8: cold at the end of month " + month, x.ofThing(3, 7), cold ? 1 : 0);
            x.days(1);
        }
        text(x, 0, "0");
        x.image();
        x.going(0, 1, 10);
        x.restore();
        NineWells y = wells(2);
        y.thing(6, 5);
        y.let(0, 0);
        for (int month = 0; month < 13; month++) {
            y.going(0, 1, 10);
            due("8: sunk in month " + month, y.ofThing(0, 6), month >= 5 && month <= 7 ? 20 : 15);
            y.going(0, -1, 10);
            y.days(30);
        }
        for (int m = 0; m <= 4; m++) {
            NineWells z = wells(1);
            z.thing(2, m);
            z.let(0, 0);
            for (int others = 0; others <= 4; others++) {
                due("8: heavy " + m + " with " + others, z.ofThing(0, 7), m <= 3 && others < m ? 1 : 0);
                z.thing(0, 0);
                z.let(others + 1, 0);
            }
        }
        NineWells w = wells(1);
        w.thing(6, 1);
        w.let(0, 0);
        w.days(1);
        due("8: sunk as heavy", w.ofThing(0, 7), 1);
        w.thing(0, 0);
        w.let(1, 0);
        due("8: sunk with one other", w.ofThing(0, 7), 0);
        w.days(6);
        due("8: sunk on day 7", w.ofThing(0, 7), 1);
    }

    private static void floods() {
        NineWells x = new NineWells();
        due("16: no wells", x.floods(1), STATE);
        due("16: beyond ahead of state", x.floods(0), BEYOND);
        for (int i = 0; i < 5; i++) x.well();
        x.thing(0, 0);
        x.let(0, 2);
        x.seed(-77);
        due("16: beyond", x.floods(101), BEYOND);
        due("16: z as it was", x.count(8), -77);
        int z = -77;
        int[] to = {-1, -1, -1, -1, -1};
        int[] days = {1, 1, 1, 1, 1};
        int at = 2, left = 0;
        for (int day = 1; day <= 60; day++) {
            z = z * 1103515245 + 12345;
            int well = (z >>> 8) % 5;
            z = z * 1103515245 + 12345;
            to[well] = (z >>> 8) % 5;
            z = z * 1103515245 + 12345;
            days[well] = (z >>> 8) % 9 + 1;
            if (left > 0) {
                left--;
            } else if (to[at] >= 0) {
                left = days[at];
                at = to[at];
            }
            due("16: a flooded day", x.floods(1), day);
            due("16: its going", x.ofWell(well, 0) * 10 + x.ofWell(well, 1), to[well] * 10 + days[well]);
            due("16: where it is", x.ofThing(0, 3) * 100 + x.ofThing(0, 4), at * 100 + left);
        }
        due("16: z", x.count(8), z);
        NineWells y = wells(4);
        NineWells w = wells(4);
        y.floods(100);
        for (int i = 0; i < 100; i++) w.floods(1);
        same("16: a hundred as one by one", seenOf(y), seenOf(w));
        NineWells one = wells(1);
        one.floods(1);
        int third = 1;
        for (int i = 0; i < 3; i++) third = third * 1103515245 + 12345;
        due("16: one well, to itself", one.ofWell(0, 0), 0);
        due("16: of its days", one.ofWell(0, 1), (third >>> 8) % 9 + 1);
        for (int i = 0; i < 99; i++) one.days(100);
        due("16: would be above", one.floods(99), STATE);
        due("16: the last", one.floods(98), 9999);
    }

    private static NineWells threeInARing() {
        NineWells x = wells(4);
        x.going(0, 1, 3);
        x.going(1, 2, 2);
        x.going(2, 0, 4);
        x.set(1, 0, 5);
        for (int k = 0; k < 3; k++) x.thing(k, 0);
        x.let(0, 0);
        x.let(1, 0);
        return x;
    }

    private static void ahead() {
        NineWells x = threeInARing();
        String was = seenOf(x);
        for (int what = 0; what < 8; what++) due("17: none ahead", x.then(0, 0, what), x.ofThing(0, what));
        for (int n = 0; n <= 200; n += 40) {
            NineWells y = threeInARing();
            for (int i = 0; i < n / 8; i++) y.days(8);
            for (int what = 0; what < 8; what++) {
                due("17: then", x.then(n, 0, what), y.ofThing(0, what));
                due("17: then", x.then(n, 1, what), y.ofThing(1, what));
            }
            for (int w = 0; w < 4; w++) due("18: in", x.in(n, w), y.ofWell(w, 4));
        }
        same("17, 18: looking ahead", seenOf(x), was);
        int[][] wrong = {{-1, 0, 0}, {201, 0, 0}, {0, -1, 0}, {0, 3, 0}, {0, 0, -1}, {0, 0, 8}};
        for (int[] w : wrong) due("17: beyond", x.then(w[0], w[1], w[2]), BEYOND);
        due("18: beyond", x.in(-1, 0), BEYOND);
        due("18: beyond", x.in(201, 0), BEYOND);
        due("18: beyond", x.in(0, -1), BEYOND);
        due("18: beyond", x.in(0, 4), BEYOND);
    }

    private static void seen() {
        NineWells x = threeInARing();
        due("19: where it goes", x.seen(200, 0, 1), 4);
        due("19: on the last day", x.seen(4, 0, 1), 4);
        due("19: a day too few", x.seen(3, 0, 1), NONE);
        due("19: back, not now", x.seen(200, 0, 0), 12);
        due("19: never", x.seen(200, 0, 3), NONE);
        due("19: it is out", x.seen(200, 2, 0), NONE);
        x.let(2, 3);
        due("19: it stays there", x.seen(1, 2, 3), 1);
        int[][] wrong = {{0, 0, 0}, {201, 0, 0}, {1, -1, 0}, {1, 3, 0}, {1, 0, -1}, {1, 0, 4}};
        for (int[] w : wrong) due("19: beyond", x.seen(w[0], w[1], w[2]), BEYOND);
        due("19: told", x.told(2), 3);
    }

    private static void round() {
        NineWells x = threeInARing();
        due("20: a thing", x.round(0, 0), 12);
        due("20: from another well", x.round(0, 2), 12);
        due("20: a light one", x.round(1, 1), 9);
        due("20: it leads to none", x.round(0, 3), NONE);
        for (int w = 0; w < 3; w++) x.set(w, 1, 1);
        due("20: nobody fishing", x.round(0, 0), 12);
        due("20: who fishes fishes still", x.ofWell(1, 3), 1);
        x.going(3, 0, 1);
        due("20: not in the ring", x.round(0, 3), NONE);
        x.thing(2, 1);
        due("20: no others, so it waits", x.round(3, 0), NONE);
        x.thing(3, 0);
        due("20: cold, till month 2", x.round(4, 0), 60 + 7 + 5 + 9);
        x.thing(5, 0);
        x.let(5, 1);
        x.days(1);
        due("20: a pair that is below, alone", x.round(5, 1), 12);
        x.going(0, 0, 30);
        x.going(1, 1, 30);
        text(x, 0, "30");
        due("20: 61 days", x.round(0, 0), 61);
        x.thing(2, 30);
        due("20: 91 days", x.round(6, 0), 91);
        due("20: beyond", x.round(-1, 0), BEYOND);
        due("20: beyond", x.round(7, 0), BEYOND);
        due("20: beyond", x.round(0, -1), BEYOND);
        due("20: beyond", x.round(0, 4), BEYOND);
        NineWells y = wells(3);
        y.thing(2, 30);
        y.thing(2, 9);
        y.thing(2, 10);
        text(y, 0, "30");
        y.going(0, 1, 29);
        y.going(1, 0, 30);
        due("20: two goings, slowed and heavy", y.round(1, 0), 29 + 40 + 30 + 40);
        y.going(1, 2, 30);
        y.going(2, 0, 21);
        due("20: 200 days", y.round(1, 0), 29 + 40 + 30 + 40 + 21 + 40);
        due("20: no more than 200", y.round(2, 0), NONE);
    }

    private static void ways() {
        NineWells x = wells(5);
        x.going(0, 1, 3);
        x.going(1, 2, 4);
        x.going(2, 0, 5);
        x.going(3, 3, 9);
        x.set(0, 0, 50);
        x.set(1, 0, 6);
        x.set(2, 0, 7);
        due("21: by goings", x.soon(0, 2, 99), 7);
        due("21: as soon by hand", x.soon(0, 2, 7), 7);
        due("21: sooner by hand", x.soon(0, 2, 6), 6);
        due("21: by hand alone", x.soon(0, 4, 99), 99);
        due("21: from one that leads to none", x.soon(4, 0, 1), 1);
        due("21: to itself", x.soon(3, 3, 50), 0);
        due("21: all around", x.soon(1, 0, 99), 9);
        due("22: tolls where it leads", x.cheap(0, 2, 99), 13);
        due("22: by hand", x.cheap(0, 2, 12), 12);
        due("22: for nothing", x.cheap(0, 4, 0), 0);
        due("22: to itself", x.cheap(0, 0, 99), 0);
        due("22: all around", x.cheap(1, 0, 99), 57);
        int[][] wrong = {{-1, 0, 1}, {5, 0, 1}, {0, -1, 1}, {0, 5, 1}, {0, 0, 100}, {0, 0, -1}, {0, 0, MAX}};
        for (int[] w : wrong) {
            due("21: beyond", x.soon(w[0], w[1], w[2]), BEYOND);
            due("22: beyond", x.cheap(w[0], w[1], w[2]), BEYOND);
        }
        due("21: beyond", x.soon(0, 1, 0), BEYOND);
        due("23: deep", x.rings(0), 16);
        due("23: rings", x.rings(1), 2);
        x.going(4, 2, 1);
        due("23: into a ring", x.rings(0), 16);
        x.going(2, 4, 1);
        due("23: out of a ring", x.rings(0), 3);
        due("23: two still", x.rings(1), 2);
        x.going(2, -1, 1);
        due("23: one", x.rings(1), 1);
        due("23: all but 3", x.rings(0), 23);
        due("23: beyond", x.rings(-1), BEYOND);
        due("23: beyond", x.rings(2), BEYOND);
        due("23: none", new NineWells().rings(0) + new NineWells().rings(1), 0);
    }

    private static void meet() {
        NineWells x = wells(6);
        x.going(0, 2, 3);
        x.going(1, 2, 3);
        due("24: meet in 2", x.meet(0, 1), 3);
        due("24: the same", x.meet(5, 5), 0);
        due("24: one that waits isn't there", x.meet(0, 2), NONE);
        x.going(0, 2, 4);
        due("24: a day apart, and it ends", x.meet(0, 1), NONE);
        x.going(2, 2, 1);
        due("24: there each day", x.meet(0, 1), 4);
        due("24: there each day", x.meet(2, 1), 3);
        due("24: both nowhere", x.meet(3, 4), NONE);
        x.going(3, 0, 1);
        x.going(4, 0, 1);
        due("24: meet in 0", x.meet(3, 4), 1);
        x.going(3, 3, 8);
        x.going(4, 3, 24);
        due("24: on day 24", x.meet(3, 4), 24);
        due("24: likewise", x.meet(4, 3), 24);
        x.going(3, 4, 25);
        x.going(4, 3, 25);
        due("24: never", x.meet(3, 4), NONE);
        x.going(0, 1, 25);
        x.going(1, 0, 24);
        x.going(5, 5, 1);
        due("24: rings apart", x.meet(0, 5), NONE);
        NineWells y = wells(9);
        for (int w = 0; w < 6; w++) y.going(w, w + 1, 30);
        y.going(6, 7, 20);
        y.going(8, 7, 30);
        y.going(7, 7, 1);
        due("24: on day 200", y.meet(0, 8), 200);
        y.going(6, 7, 21);
        due("24: no later", y.meet(0, 8), NONE);
        due("24: beyond", x.meet(-1, 0), BEYOND);
        due("24: beyond", x.meet(0, 6), BEYOND);
        due("24: beyond", x.meet(6, 0), BEYOND);
    }

    private static void tenth() {
        NineWells x = wells(4);
        due("25: none", x.tenth(), NONE);
        x.going(0, -1, 30);
        due("25: leads to none", x.tenth(), NONE);
        x.going(3, 3, 1);
        due("25: one", x.tenth(), 3);
        x.going(1, 0, 1);
        due("25: the least", x.tenth(), 1);
        x.going(2, 0, 9);
        due("25: the most", x.tenth(), 2);
        due("25: no well more", x.count(1), 4);
        x.going(0, 1, 9);
        due("25: the least, 0", x.tenth(), 0);
    }

    private static void finds() {
        NineWells x = wells(3);
        x.going(0, 1, 2);
        x.going(1, 2, 3);
        int[][] wrong = {{-1, 0, 1}, {3, 0, 1}, {0, -1, 1}, {0, 3, 1}, {0, 0, 0}, {0, 0, 100}};
        for (int[] w : wrong) due("26: beyond", x.find(w[0], w[1], w[2]), BEYOND);
        due("26: first", x.find(0, 1, 2), 0);
        due("26: second", x.find(0, 2, 5), 1);
        x.find(0, 1, 1);
        x.find(0, 2, 6);
        x.find(2, 2, 1);
        due("28: so", x.agrees(0), 1);
        due("28: so", x.agrees(1), 1);
        due("28: it is below", x.agrees(2), 0);
        due("28: it is nowhere", x.agrees(3), 0);
        due("28: it doesn't stay", x.agrees(4), 0);
        due("28: beyond", x.agrees(-1), BEYOND);
        due("28: beyond", x.agrees(5), BEYOND);
        x.going(0, 1, 1);
        due("28: as goings are", x.agrees(2) * 10 + x.agrees(0), 10);
        for (int i = 5; i < 12; i++) due("26: find", x.find(0, 0, 99), i);
        due("26: full", x.find(0, 0, 1), FULL);
        due("26: beyond ahead of full", x.find(0, 0, 0), BEYOND);
        due("27: forget", x.forget(), 12);
        due("27: none", x.forget(), 0);
        due("27: gone", x.agrees(0), BEYOND);
        due("27: count", x.count(4), 0);
        due("26: from 0 again", x.find(0, 0, 99), 0);
    }

    private static void belows() {
        NineWells x = wells(4);
        x.going(1, 3, 2);
        x.going(2, 3, 3);
        due("29: all", x.belows(0, 5, 0), 20);
        due("29: all of one day", x.belows(0, 1, 0), 4);
        due("29: first", x.belows(0, 5, 1), 1);
        due("29: not sure", x.belows(0, 5, 2), 0);
        x.find(0, 3, 5);
        due("29: by 1 in 3, by 2 in 2, straight in 5", x.belows(0, 5, 0), 3);
        due("29: first", x.belows(0, 5, 1), 13);
        due("29: not sure", x.belows(0, 5, 2), 0);
        due("29: too far", x.belows(0, 1, 0), 0);
        due("29: none is first", x.belows(0, 1, 1), -1);
        due("29: two wells aren't sure", x.belows(0, 3, 2), 0);
        due("29: sure if none agrees", x.belows(0, 1, 2), 1);
        due("29: d", x.belows(0, 2, 1), 22);
        due("29: sure", x.belows(0, 2, 2), 1);
        due("30: where it leads on day 2", x.cork(0, 5, 2, 0), 0);
        due("30: 2, or below", x.cork(0, 5, 2, 1), 2);
        due("30: 1, or below", x.cork(0, 5, 3, 1), 2);
        due("30: day 1, all below or nowhere", x.cork(0, 5, 1, 1), 1);
        due("30: day 99", x.cork(0, 5, 99, 1), 1);
        due("30: none differ: the least", x.cork(0, 5, 5, 0), 0);
        due("30: none differ", x.cork(0, 5, 5, 1), 1);
        x.find(0, 2, 2);
        due("29: by 2", x.belows(0, 5, 1), 22);
        due("29: sure", x.belows(0, 5, 2), 1);
        x.find(3, 3, 1);
        due("29: another going is wrong", x.belows(0, 5, 0), 0);
        due("30: none agrees", x.cork(0, 5, 2, 1), 0);
        due("30: the least", x.cork(0, 5, 2, 0), 0);
        x.forget();
        x.going(3, 0, 1);
        x.going(0, 1, 1);
        due("30: all wells, or below", x.cork(2, 5, 2, 1), 5);
        due("30: it is 2 itself", x.cork(2, 5, 2, 0), 2);
        due("29: as they were", x.ofWell(2, 0) * 10 + x.ofWell(2, 1), 33);
        x.going(0, 2, 1);
        x.going(1, 2, 1);
        x.going(3, -1, 1);
        due("30: from one that leads there, the least", x.cork(2, 1, 2, 0), 0);
        due("30: every well", x.cork(2, 1, 2, 1), 4);
        x.going(0, -1, 1);
        due("30: the other one", x.cork(2, 1, 2, 0), 1);
        due("30: below and nowhere are one place", x.cork(0, 5, 4, 1), 5);
        int[][] wrong = {{-1, 1, 0}, {4, 1, 0}, {0, 0, 0}, {0, 6, 0}, {0, 1, -1}, {0, 1, 3}};
        for (int[] w : wrong) due("29: beyond", x.belows(w[0], w[1], w[2]), BEYOND);
        int[][] wrongCorks = {{-1, 1, 1, 0}, {4, 1, 1, 0}, {0, 0, 1, 0}, {0, 6, 1, 0}, {0, 1, 0, 0}, {0, 1, 100, 0}, {0, 1, 1, -1}, {0, 1, 1, 2}};
        for (int[] w : wrongCorks) due("30: beyond", x.cork(w[0], w[1], w[2], w[3]), BEYOND);
    }

    private static void seed() {
        NineWells x = new NineWells();
        due("31: at first", x.seed(BEYOND), 1);
        due("31: any number", x.seed(MIN), BEYOND);
        due("31: count", x.count(8), MIN);
        due("31: no error", x.told(1), 0);
    }

    private static void hears(NineWells x, int thing, int act, int says, int... bodies) {
        due("32: thing " + thing + ", act " + act, x.voice(thing, act, 5), says);
        due("33: how many", x.count(7), bodies.length);
        for (int i = 0; i < bodies.length; i++) due("33: body " + i, x.trace(i), bodies[i]);
        due("33: none behind", x.trace(bodies.length), NONE);
        due("33: none ahead", x.trace(-1), NONE);
    }

    /** x is 5 and m 2 throughout; the kinds are their own numbers. */
    private static void voice() {
        NineWells x = new NineWells();
        for (int k = 0; k < 7; k++) x.thing(k, 2);
        hears(x, 0, 0, 5, 10);
        hears(x, 0, 1, 10, 11, 10);
        hears(x, 0, 2, 3, 12);
        hears(x, 0, 3, 10 ^ 3, 13, 11, 10, 12);
        hears(x, 1, 1, 12 + 1, 20, 11, 10, 12);
        hears(x, 1, 3, 13 ^ 3, 13, 20, 11, 10, 12, 12);
        hears(x, 2, 0, 21, 30, 10);
        hears(x, 2, 3, 42 ^ 3, 13, 11, 30, 10, 12);
        hears(x, 3, 2, -3, 40, 12);
        hears(x, 3, 3, 16 ^ -3, 13, 11, 10, 40, 12);
        hears(x, 4, 1, 20 + 1, 50, 20, 11, 10, 12);
        hears(x, 4, 3, 21 ^ 3, 13, 50, 20, 11, 10, 12, 12);
        hears(x, 5, 3, (20 ^ 3) - 7, 60, 13, 11, 10, 12, 10);
        hears(x, 6, 0, 33 ^ 6, 70, 30, 10);
        hears(x, 6, 1, (33 ^ 6) * 2, 11, 70, 30, 10);
        int goes = (33 ^ 6) * 2;
        hears(x, 6, 3, goes - (goes ^ 3), 71, 11, 70, 30, 10, 13, 11, 70, 30, 10, 12);
        due("32: goes round", x.voice(0, 1, MAX), -2);
        due("32: beyond", x.voice(-1, 0, 0), BEYOND);
        due("32: beyond", x.voice(7, 0, 0), BEYOND);
        due("32: beyond", x.voice(0, -1, 0), BEYOND);
        due("32: beyond", x.voice(0, 4, 0), BEYOND);
        due("33: the trace stays", x.count(7) * 100 + x.trace(0), 211);
        int told = x.told(1);
        due("32: any number", x.voice(0, 0, BEYOND), BEYOND);
        due("32: no error", x.told(1), told);
    }

    private static void sheets() {
        NineWells x = wells(2);
        for (int bits : new int[] {8, 16, 32}) due("34: laid", x.sheet(0, bits, 40), 1);
        int[] wrongBits = {-1, 1, 7, 9, 24, 33, 64, MIN, MAX};
        for (int bits : wrongBits) due("34: bits", x.sheet(0, bits, -1), BEYOND);
        due("34: no such", x.sheet(-1, 8, -1), BEYOND);
        due("34: no such", x.sheet(4, 8, 1), BEYOND);
        due("34: below 0", x.sheet(0, 8, -1), STATE);
        due("34: below 0", x.sheet(0, 8, MIN), STATE);
        due("34: too many", x.sheet(0, 8, 41), BEYOND);
        due("34: as it was", x.put(0, 39, 1), 1);
        due("34: missing, whatever n", x.sheet(0, 0, -1), 1);
        due("34: missing, whatever n", x.sheet(0, 0, MAX), 1);
        due("35: missing", x.put(0, 0, 1), NONE);
        due("35: missing ahead of no number", x.put(0, -1, 1), NONE);
        due("35: no such", x.put(4, 0, 1), BEYOND);
        due("35: no such", x.put(-1, 0, 1), BEYOND);
        x.sheet(0, 32, 2);
        due("35: put", x.put(0, 1, 7), 1);
        due("35: no number", x.put(0, 2, 7), BEYOND);
        due("35: no number", x.put(0, -1, 7), BEYOND);
        x.put(0, 0, 1);
        due("35: read", x.goings(0), 1);
        due("35: as put", x.ofWell(0, 0) * 10 + x.ofWell(0, 1), 17);
        x.sheet(0, 32, 2);
        due("34: all 0 again", x.goings(0), 0);
        x.sheet(1, 8, 0);
        due("34: none in it", x.put(1, 0, 0), BEYOND);
    }

    private static void move() {
        NineWells x = wells(3);
        row(x, 0, 8, 1, 2, 2, 3, 0, 4);
        row(x, 1, 8, 0, 9, 0, 9, 0, 9);
        due("36: moved", x.move(0, 2, 1, 0, 4), 4);
        due("36: goings", x.goings(1), 3);
        due("36: first", x.ofWell(0, 0) * 10 + x.ofWell(0, 1), 23);
        due("36: second", x.ofWell(1, 0) * 10 + x.ofWell(1, 1), 4);
        due("36: third as it was", x.ofWell(2, 0) * 10 + x.ofWell(2, 1), 9);
        due("36: onto itself, up", x.move(0, 0, 0, 2, 4), 4);
        x.goings(0);
        due("36: as they all were", x.ofWell(1, 0) * 10 + x.ofWell(1, 1), 12);
        due("36: as they all were", x.ofWell(2, 0) * 10 + x.ofWell(2, 1), 23);
        row(x, 0, 8, 1, 2, 2, 3, 0, 4);
        due("36: onto itself, down", x.move(0, 2, 0, 0, 4), 4);
        x.goings(0);
        due("36: as they all were", x.ofWell(0, 0) * 10 + x.ofWell(0, 1), 23);
        due("36: as they all were", x.ofWell(1, 0) * 10 + x.ofWell(1, 1), 4);
        due("36: none", x.move(0, 6, 1, 6, 0), 0);
        due("36: no such", x.move(-1, 0, 2, 0, 0), BEYOND);
        due("36: no such", x.move(2, 0, 4, 0, 0), BEYOND);
        due("36: missing", x.move(2, -1, 0, 0, 1), NONE);
        due("36: missing", x.move(0, 0, 2, -1, 1), NONE);
        x.sheet(2, 16, 6);
        due("36: unlike", x.move(0, -1, 2, 0, -1), KIND);
        int[][] wrong = {{-1, 0, 1}, {0, -1, 1}, {0, 0, -1}, {0, 0, 7}, {6, 0, 1}, {0, 6, 1}, {7, 0, 0}, {0, 7, 0}, {1, 0, MAX}, {MAX, 0, MAX}, {0, MAX, 1}, {MIN, MIN, MIN}};
        for (int[] w : wrong) due("36: beyond", x.move(0, w[0], 1, w[1], w[2]), BEYOND);
        x.sheet(3, 8, 2);
        due("36: too many for the other", x.move(0, 0, 3, 0, 3), BEYOND);
        due("36: two go", x.move(0, 0, 3, 0, 2), 2);
    }

    private static NineWells full() {
        NineWells x = threeInARing();
        x.set(2, 1, 1);
        text(x, 0, "k");
        text(x, 1, "s>5");
        x.find(0, 1, 3);
        x.find(1, 1, 1);
        write(x, "1+");
        x.tell(4);
        x.seed(99);
        x.days(2);
        return x;
    }

    private static void image() {
        NineWells x = full();
        String was = seenOf(x);
        due("38: none", x.restore(), NONE);
        due("37: once", x.image(), 1);
        same("37: keeping an image", seenOf(x), was);
        x.well();
        x.going(0, 3, 9);
        x.set(0, 0, 9);
        x.set(0, 1, 1);
        x.thing(6, 6);
        x.let(3, 0);
        write(x, "1");
        x.text(0);
        text(x, 1, "7");
        text(x, 0, "9");
        x.forget();
        x.find(2, 2, 9);
        x.find(0, 0, 12);
        x.check(0);
        x.tell(1);
        x.tell(2);
        x.floods(50);
        x.sheet(0, 8, 4);
        x.voice(0, 0, 0);
        int told = x.told(1);
        x.going(9, 9, 9);
        due("38: today", x.restore(), 2);
        due("38: the trace isn't in it", x.count(7), 1);
        due("38: sheets aren't in it", x.put(0, 3, 1), 1);
        due("38: told isn't in it", x.told(1), told + 1);
        NineWells again = full();
        again.voice(0, 0, 0);
        same("38: restoring", seenOf(x), seenOf(again));
        x.tell(5);
        text(x, 1, "0");
        due("38: the tape", x.feed('1', 1), 1);
        x.restore();
        x.feed('4', 1);
        due("38: its bytes", x.text(1), 1);
        due("38: 1+4", x.law(1, 0, 0, 0, 0), 5);
        due("38: it stays", x.restore(), 2);
        due("38: the numbers that wait", x.count(6), 1);
        due("38: those themselves", x.check(0), 1);
        NineWells y = threeInARing();
        y.tell(-1);
        y.image();
        y.check(0);
        y.tell(9);
        y.restore();
        due("38: a number that waits", y.check(0), 0);
        x.days(7);
        due("37: twice", x.image(), 2);
        x.days(1);
        due("38: the one in place of it", x.restore(), 9);
        due("38: how often isn't in it", x.image(), 3);
    }

    private static void check() {
        NineWells x = threeInARing();
        due("40: no numbers", x.check(0), 0);
        int[] where = {-1, -1, -1, 1, -1, -1, 2};
        for (int i = 0; i < 7; i++) due("39: waits", x.tell(where[i]), i + 1);
        due("40: so", x.check(0), 0);
        due("40: none wait", x.count(6), 0);
        for (int i = 0; i < 7; i++) x.tell(i == 6 ? 1 : where[i]);
        due("40: the seventh isn't", x.check(0), 7);
        due("40: none wait", x.count(6), 0);
        x.tell(0);
        due("40: the first isn't", x.check(0), 1);
        x.tell(-2);
        due("40: no such place", x.check(0), 1);
        x.tell(-1);
        x.tell(-1);
        due("40: it is out", x.check(2), 0);
        due("40: beyond", x.check(3), BEYOND);
        x.tell(1);
        due("40: beyond", x.check(-1), BEYOND);
        due("40: none wait then, too", x.count(6), 0);
        due("40: no day went by", x.count(0), 0);
        for (int i = 1; i <= 20; i++) due("39: waits", x.tell(MIN), i);
        due("39: full", x.tell(0), FULL);
        due("39: twenty", x.count(6), 20);
    }

    private static void count() {
        NineWells x = full();
        int[] counts = {2, 4, 3, 1, 2, 2, 1, 0, 99};
        for (int k = 0; k < 9; k++) due("41: count " + k, x.count(k), counts[k]);
        x.voice(0, 3, 0);
        due("41: bodies", x.count(7), 4);
        due("41: beyond", x.count(-1), BEYOND);
        due("41: beyond", x.count(9), BEYOND);
    }

    private static void told() {
        NineWells x = new NineWells();
        x.restore();
        x.trace(0);
        x.tenth();
        x.fish(0);
        x.floods(1);
        x.thing(1, 0);
        x.as(0, 2);
        x.fish(0);
        for (int i = 0; i < 13; i++) x.well();
        int[] want = {1, 3, 2, 4, 1};
        for (int k = 1; k <= 5; k++) due("42: told " + k, x.told(k), want[k - 1]);
        due("42: another k", x.told(0), BEYOND);
        due("42: another k", x.told(6), BEYOND);
        due("42: another k", x.told(MIN), BEYOND);
        due("42: counted, too", x.told(1), 4);
    }

    /** Every act that can answer an ERROR does, and nothing is changed by it. */
    private static void errorsChangeNothing() {
        NineWells x = full();
        x.voice(0, 3, 1);
        String was = seenOf(x);
        int answers = 0;
        int[] got = {x.going(4, 0, 1), x.going(0, 0, 31), x.set(0, 0, 100), x.set(0, 2, 0), x.ofWell(4, 0), x.goings(4), x.goings(0), x.thing(7, 0),
            x.ofThing(0, 8), x.as(0, 7), x.as(0, 1), x.let(0, 0), x.let(0, 9), x.fish(0), x.fish(9), x.feed(0, 9), x.text(2), x.law(2, 0, 0, 0, 0),
            x.days(101), x.floods(101), x.then(201, 0, 0), x.in(201, 0), x.seen(201, 0, 0), x.seen(200, 0, 3), x.round(9, 0), x.round(0, 3),
            x.soon(0, 0, 0), x.cheap(0, 0, 100), x.rings(2), x.meet(0, 9), x.meet(0, 3), x.find(0, 0, 0), x.agrees(9), x.belows(0, 6, 0),
            x.cork(0, 1, 0, 0), x.voice(0, 4, 0), x.trace(40), x.sheet(0, 9, 1), x.sheet(0, 8, -1), x.sheet(0, 8, 41), x.put(4, 0, 0), x.put(0, 0, 0),
            x.move(4, 0, 0, 0, 0), x.move(0, 0, 0, 0, 0), x.restore(), x.count(9), x.told(9)};
        for (int g : got) if (g < LOW && g >= KIND) answers++;
        due("all are errors", answers, got.length);
        same("an error", seenOf(x), was);
        int told = 0;
        for (int k = 1; k <= 5; k++) told += x.told(k);
        due("all are told", told, got.length);
        due("sheets are missing still", x.goings(0), NONE);
    }

    public static void main(String[] args) {
        aNewObject();
        well();
        going();
        set();
        ofWell();
        goings();
        thing();
        ofThing();
        as();
        let();
        fish();
        feed();
        text();
        law();
        daysOfOneThing();
        daysByTurns();
        daysAndWhoFishes();
        lastsAndStays();
        floods();
        ahead();
        seen();
        round();
        ways();
        meet();
        tenth();
        finds();
        belows();
        seed();
        voice();
        sheets();
        move();
        image();
        check();
        count();
        told();
        errorsChangeNothing();
        System.out.println("PromisesTest: " + passed + " passed, " + failed + " failed");
        if (failed != 0) System.exit(1);
    }
}
