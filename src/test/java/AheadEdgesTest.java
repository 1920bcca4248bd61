/** Promises 17 to 25, what is ahead and ways: each boundary that they, or the terms they use, name. */
public final class AheadEdgesTest extends Edges {

    /** On DAY 9999, which is in MONTH 9 and 3 behind a multiple of 7. */
    private static NineWells onTheLastDay() {
        NineWells x = fresh(3);
        goTo(x, 9999);
        return x;
    }

    private static void then() {
        edge(17, "n is 0 at least: as it is now", () -> {
            NineWells x = lived();
            for (int t = 0; t < 7; t++) for (int k = 0; k <= 7; k++) due("then(0, " + t + ", " + k + ")", x.then(0, t, k), x.ofThing(t, k));
        });
        edge(17, "n is 200 at most: as behind so many DAYS", () -> {
            NineWells x = lived(), y = lived();
            y.days(100);
            y.days(100);
            for (int t = 0; t < 7; t++) for (int k = 0; k <= 7; k++) due("then(200, " + t + ", " + k + ")", x.then(200, t, k), y.ofThing(t, k));
        });
        edge(17, "n is any between: as behind so many DAYS", () -> {
            for (int n = 1; n <= 9; n++) {
                NineWells x = lived(), y = lived();
                y.days(n);
                for (int t = 0; t < 7; t++) for (int k = 0; k <= 7; k++) due("then(" + n + ", " + t + ", " + k + ")", x.then(n, t, k), y.ofThing(t, k));
            }
        });
        edge(17, "beyond DAY 9999, too: it goes on its way", () -> {
            NineWells x = onTheLastDay();
            x.going(0, 1, 30);
            letNew(x, 0, 0, 0);
            due("then(1, 0, 4)", x.then(1, 0, 4), 30);
            due("then(30, 0, 4)", x.then(30, 0, 4), 1);
            due("then(31, 0, 2)", x.then(31, 0, 2), 0);
            due("then(31, 0, 3)", x.then(31, 0, 3), 1);
        });
        edge(17, "beyond DAY 9999, too: MONTHS (11 is from DAY 10050 on, 2 from DAY 10140 on)", () -> {
            NineWells x = onTheLastDay();
            letNew(x, 3, 0, 0);
            int[] n = {0, 1, 50, 51, 140, 141, 200}, want = {0, 0, 0, 1, 1, 0, 0};
            for (int i = 0; i < n.length; i++) due("then(" + n[i] + ", 0, 7)", x.then(n[i], 0, 7), want[i]);
        });
        edge(17, "beyond DAY 9999, too: multiples of 7 (10003), and TODAY in SLOWS", () -> {
            NineWells x = onTheLastDay();
            letNew(x, 6, 0, 0);
            letNew(x, 2, 1, 1);
            x.going(1, 0, 5);
            text(x, 0, "t-9999");
            due("then(3, 0, 7)", x.then(3, 0, 7), 0);
            due("then(4, 0, 7)", x.then(4, 0, 7), 1);
            due("then(5, 0, 7)", x.then(5, 0, 7), 0);
            due("then(1, 1, 6)", x.then(1, 1, 6), 5 + 1 + 1);
            due("then(9, 1, 6)", x.then(9, 1, 6), 5 + 1 + 9);
        });
        edge(17, "SPENT and who FISHES, ahead", () -> {
            NineWells x = fresh(2);
            x.going(0, 1, 1);
            x.set(1, 0, 99);
            x.set(1, 1, 1);
            letNew(x, 0, 0, 0);
            due("then(1, 0, 5)", x.then(1, 0, 5), 0);
            due("then(2, 0, 5)", x.then(2, 0, 5), 99);
            due("then(2, 0, 2)", x.then(2, 0, 2), 2);
            due("then(200, 0, 3)", x.then(200, 0, 3), 1);
            due("ofThing(0, 5)", x.ofThing(0, 5), 0);
        });
        beyond(17, "n -1", x -> x.then(-1, 0, 0));
        beyond(17, "n 201", x -> x.then(201, 0, 0));
        beyond(17, "the least int for n", x -> x.then(MIN, 0, 0));
        beyond(17, "the greatest int for n", x -> x.then(MAX, 0, 0));
        beyond(17, "THING -1", x -> x.then(1, -1, 0));
        beyond(17, "the THING behind the last", x -> x.then(1, 7, 0));
        beyond(17, "the greatest int for a THING", x -> x.then(1, MAX, 0));
        beyond(17, "what -1", x -> x.then(1, 0, -1));
        beyond(17, "what 8", x -> x.then(1, 0, 8));
        beyond(17, "the least int for what", x -> x.then(1, 0, MIN));
        refused(17, "THING 10 of ten", BEYOND, Edges::brim, x -> x.then(0, 10, 0));
        onlyAsks(17, "then(200, 4, 3)", 4, x -> x.then(200, 4, 3));
        onlyAsks(17, "then(1, 0, 2)", 0, x -> x.then(1, 0, 2));
    }

    private static void in() {
        edge(18, "n is 0 at least: as it is now", () -> {
            NineWells x = lived();
            for (int w = 0; w < 5; w++) due("in(0, " + w + ")", x.in(0, w), x.ofWell(w, 4));
        });
        edge(18, "n is 200 at most: as behind so many DAYS", () -> {
            NineWells x = lived(), y = lived();
            y.days(100);
            y.days(100);
            for (int w = 0; w < 5; w++) due("in(200, " + w + ")", x.in(200, w), y.ofWell(w, 4));
        });
        edge(18, "the DAY on which it comes up, the ones beside it", () -> {
            NineWells x = fresh(9);
            x.going(0, 8, 30);
            x.going(8, 0, 30);
            for (int t = 0; t < 10; t++) letNew(x, 0, 0, 0);
            due("in(1, 0)", x.in(1, 0), 0);
            due("in(30, 8)", x.in(30, 8), 0);
            due("in(31, 8)", x.in(31, 8), 1023);
            due("in(32, 8)", x.in(32, 8), 0);
            due("in(62, 0)", x.in(62, 0), 1023);
        });
        edge(18, "beyond DAY 9999, too", () -> {
            NineWells x = onTheLastDay();
            x.going(0, 1, 30);
            letNew(x, 0, 0, 0);
            due("in(30, 1)", x.in(30, 1), 0);
            due("in(31, 1)", x.in(31, 1), 1);
            due("in(200, 1)", x.in(200, 1), 1);
        });
        beyond(18, "n -1", x -> x.in(-1, 0));
        beyond(18, "n 201", x -> x.in(201, 0));
        beyond(18, "the least int for n", x -> x.in(MIN, 0));
        beyond(18, "the greatest int for n", x -> x.in(MAX, 0));
        beyond(18, "WELL -1", x -> x.in(0, -1));
        beyond(18, "the WELL behind the last", x -> x.in(0, 5));
        beyond(18, "the least int for a WELL", x -> x.in(0, MIN));
        beyond(18, "the greatest int for a WELL", x -> x.in(0, MAX));
        refused(18, "WELL 9 of nine", BEYOND, Edges::brim, x -> x.in(0, 9));
        onlyAsks(18, "in(200, 4)", 16, x -> x.in(200, 4));
    }

    /** A HEAVY THING that comes up in WELL 3 behind 179 DAYS and so many more. */
    private static NineWells farAway(int more) {
        NineWells x = fresh(4);
        text(x, 0, "30");
        x.going(0, 1, 29);
        x.going(1, 2, 30);
        x.going(2, 3, more);
        letNew(x, 2, 9, 0);
        return x;
    }

    private static void seen() {
        edge(19, "n is 1 at least: one that stays is seen behind 1 DAY", () -> {
            NineWells x = fresh(1);
            letNew(x, 0, 0, 0);
            due("seen(1, 0, 0)", x.seen(1, 0, 0), 1);
            due("seen(200, 0, 0)", x.seen(200, 0, 0), 1);
        });
        edge(19, "n is 200 at most: it is seen on the 200th DAY", () -> {
            NineWells x = farAway(21);
            due("seen(200, 0, 3)", x.seen(200, 0, 3), 200);
            due("seen(199, 0, 3)", x.seen(199, 0, 3), NONE);
        });
        edge(19, "on the 201st it isn't", () -> due("seen(200, 0, 3)", farAway(22).seen(200, 0, 3), NONE));
        edge(19, "on the n-th DAY it is seen, with one DAY less it isn't", () -> {
            NineWells x = fresh(2);
            x.going(0, 1, 3);
            letNew(x, 0, 0, 0);
            due("seen(4, 0, 1)", x.seen(4, 0, 1), 4);
            due("seen(3, 0, 1)", x.seen(3, 0, 1), NONE);
        });
        edge(19, "not TODAY: one that leaves is seen once it is back", () -> {
            NineWells x = fresh(1);
            x.going(0, 0, 5);
            letNew(x, 0, 0, 0);
            due("seen(200, 0, 0)", x.seen(200, 0, 0), 6);
            due("seen(5, 0, 0)", x.seen(5, 0, 0), NONE);
        });
        edge(19, "for the first time", () -> {
            NineWells x = fresh(2);
            x.going(0, 1, 1);
            x.going(1, 0, 1);
            letNew(x, 0, 0, 0);
            due("seen(200, 0, 1)", x.seen(200, 0, 1), 2);
        });
        edge(19, "one that is out is seen nowhere", () -> {
            NineWells x = fresh(1);
            letNew(x, 0, 0, 0);
            x.fish(0);
            due("seen(200, 0, 0)", x.seen(200, 0, 0), NONE);
        });
        edge(19, "one that is fished out as it comes up isn't seen there", () -> {
            NineWells x = fresh(2);
            x.going(0, 1, 3);
            x.set(1, 1, 1);
            letNew(x, 0, 0, 0);
            due("seen(200, 0, 1)", x.seen(200, 0, 1), NONE);
        });
        edge(19, "with all others going by, too", () -> {
            NineWells x = fresh(3);
            x.going(0, 1, 3);
            x.going(2, 0, 7);
            letNew(x, 2, 1, 0);
            due("seen(200, 0, 1), alone", x.seen(200, 0, 1), NONE);
            letNew(x, 0, 0, 2);
            due("seen(200, 0, 1), one comes", x.seen(200, 0, 1), 13);
        });
        edge(19, "beyond DAY 9999, too", () -> {
            NineWells x = onTheLastDay();
            x.going(0, 1, 30);
            letNew(x, 0, 0, 0);
            due("seen(200, 0, 1)", x.seen(200, 0, 1), 31);
        });
        beyond(19, "n 0", x -> x.seen(0, 4, 4));
        beyond(19, "n 201", x -> x.seen(201, 4, 4));
        beyond(19, "the least int for n", x -> x.seen(MIN, 4, 4));
        beyond(19, "the greatest int for n", x -> x.seen(MAX, 4, 4));
        beyond(19, "THING -1", x -> x.seen(1, -1, 0));
        beyond(19, "the THING behind the last", x -> x.seen(1, 7, 0));
        beyond(19, "the least int for a THING", x -> x.seen(1, MIN, 0));
        beyond(19, "WELL -1, where one that is below is likewise", x -> x.seen(1, 0, -1));
        beyond(19, "the WELL behind the last", x -> x.seen(1, 4, 5));
        beyond(19, "the greatest int for a WELL", x -> x.seen(1, 4, MAX));
        beyond(19, "n 0 ahead of NONE", x -> x.seen(0, 5, 0));
        beyond(19, "n 201 ahead of NONE", x -> x.seen(201, 5, 0));
        refused(19, "one that never comes there", NONE, Edges::lived, x -> x.seen(200, 4, 0));
        refused(19, "one that is out", NONE, Edges::lived, x -> x.seen(200, 6, 0));
        refused(19, "a DAY too few", NONE, () -> { NineWells x = lived(); x.days(1); return x; }, x -> x.seen(1, 0, 2));
        onlyAsks(19, "seen(200, 0, 1)", 1, x -> x.seen(200, 0, 1));
    }

    private static NineWells aRing(int last) {
        NineWells x = fresh(3);
        text(x, 0, "30");
        x.going(0, 1, 29);
        x.going(1, 2, 30);
        x.going(2, 0, last);
        x.thing(2, 9);
        return x;
    }

    private static void round() {
        edge(20, "1 to 200: on the 200th DAY", () -> due("round(0, 0)", aRing(21).round(0, 0), 200));
        edge(20, "1 to 200: on the 201st no more", () -> due("round(0, 0)", aRing(22).round(0, 0), NONE));
        edge(20, "the least there is: 2", () -> {
            NineWells x = fresh(1);
            x.going(0, 0, 1);
            x.thing(0, 0);
            due("round(0, 0)", x.round(0, 0), 2);
        });
        edge(20, "having been below: one that waits in it isn't back", () -> {
            NineWells x = fresh(1);
            x.going(0, 0, 1);
            x.thing(2, 1);
            due("round(0, 0)", x.round(0, 0), NONE);
        });
        edge(20, "having been below: one that waits at first is back behind that", () -> {
            NineWells x = fresh(1);
            x.going(0, 0, 1);
            x.thing(3, 0);
            x.thing(6, 0);
            due("a COLD one on DAY 0", x.round(0, 0), 60 + 3);
            due("a SUNK one on DAY 0", x.round(1, 0), 1 + 2);
            goTo(x, 59);
            due("a COLD one on DAY 59", x.round(0, 0), 1 + 3);
            x.days(1);
            due("a COLD one on DAY 60", x.round(0, 0), 3);
        });
        edge(20, "its WELL leads to none, or not back", () -> {
            NineWells x = fresh(3);
            x.thing(0, 0);
            due("to none", x.round(0, 0), NONE);
            x.going(0, 1, 1);
            due("to one that leads to none", x.round(0, 0), NONE);
            x.going(1, 2, 1);
            x.going(2, 1, 1);
            due("to a ring that it isn't in", x.round(0, 0), NONE);
            due("in that ring", x.round(0, 1), 4);
        });
        edge(20, "were it in a WELL now: wherever it is", () -> {
            NineWells x = fresh(3);
            x.going(0, 0, 4);
            x.going(1, 2, 30);
            x.thing(0, 0);
            due("out", x.round(0, 0), 5);
            x.let(0, 1);
            due("in another WELL", x.round(0, 0), 5);
            x.days(1);
            due("below", x.round(0, 0), 5);
            due("it is below still", x.ofThing(0, 4), 30);
        });
        edge(20, "all others out: none that a HEAVY one could wait for", () -> {
            NineWells x = fresh(1);
            x.going(0, 0, 2);
            letNew(x, 2, 1, 0);
            letNew(x, 0, 0, 0);
            due("round(0, 0)", x.round(0, 0), NONE);
            due("round(1, 0)", x.round(1, 0), 3);
        });
        edge(20, "all others out: none that slows a PAIR", () -> {
            NineWells x = fresh(2);
            x.going(0, 0, 9);
            x.going(1, 0, 9);
            letNew(x, 0, 0, 1);
            letNew(x, 5, 0, 0);
            due("round(1, 0), another in a WELL", x.round(1, 0), 10);
            x.days(1);
            due("round(1, 0), another below", x.round(1, 0), 10);
        });
        edge(20, "nobody FISHING", () -> {
            NineWells x = fresh(2);
            x.going(0, 1, 2);
            x.going(1, 0, 2);
            x.set(0, 1, 1);
            x.set(1, 1, 1);
            x.thing(0, 0);
            due("round(0, 0)", x.round(0, 0), 6);
            due("ofWell(1, 3)", x.ofWell(1, 3), 1);
        });
        edge(20, "beyond DAY 9999, too", () -> {
            NineWells x = onTheLastDay();
            x.going(0, 0, 30);
            x.thing(3, 0);
            due("round(0, 0)", x.round(0, 0), 61);
        });
        edge(20, "the last THING, the last WELL", () -> {
            NineWells x = fresh(9);
            x.going(8, 8, 30);
            for (int t = 0; t < 10; t++) x.thing(0, 0);
            due("round(9, 8)", x.round(9, 8), 31);
        });
        beyond(20, "THING -1", x -> x.round(-1, 0));
        beyond(20, "the THING behind the last", x -> x.round(7, 0));
        beyond(20, "the least int for a THING", x -> x.round(MIN, 0));
        beyond(20, "WELL -1", x -> x.round(0, -1));
        beyond(20, "the WELL behind the last", x -> x.round(0, 5));
        beyond(20, "the greatest int for a WELL", x -> x.round(0, MAX));
        refused(20, "a WELL that leads to none", NONE, Edges::lived, x -> x.round(0, 4));
        refused(20, "one that waits", NONE, Edges::lived, x -> x.round(2, 3));
        onlyAsks(20, "round(0, 0)", 11, x -> x.round(0, 0));
        onlyAsks(20, "round(5, 3)", 41, x -> x.round(5, 3));
    }

    /** WELLS one behind the other, the last leads to none. */
    private static NineWells inARow(int wells, int days, int toll) {
        NineWells x = fresh(wells);
        for (int w = 0; w + 1 < wells; w++) x.going(w, w + 1, days);
        for (int w = 0; w < wells; w++) x.set(w, 0, toll);
        return x;
    }

    private static void soon() {
        edge(21, "c is 1 at least", () -> due("soon(0, 1, 1)", fresh(2).soon(0, 1, 1), 1));
        edge(21, "c is 99 at most", () -> due("soon(0, 1, 99)", fresh(2).soon(0, 1, 99), 99));
        edge(21, "0 to itself, be there a GOING to itself or not", () -> {
            NineWells x = fresh(2);
            due("soon(0, 0, 1)", x.soon(0, 0, 1), 0);
            x.going(0, 0, 1);
            due("soon(0, 0, 99)", x.soon(0, 0, 99), 0);
        });
        edge(21, "by GOINGS while they take no longer than CARRYING", () -> {
            NineWells x = inARow(9, 12, 0);
            due("soon(0, 8, 99)", x.soon(0, 8, 99), 96);
            due("soon(0, 8, 97)", x.soon(0, 8, 97), 96);
            due("soon(0, 8, 96)", x.soon(0, 8, 96), 96);
            due("soon(0, 8, 95)", x.soon(0, 8, 95), 95);
            due("soon(0, 1, 99)", x.soon(0, 1, 99), 12);
        });
        edge(21, "by hand where GOINGS take longer, or don't lead", () -> {
            NineWells x = inARow(9, 30, 0);
            due("soon(0, 8, 99)", x.soon(0, 8, 99), 99);
            due("soon(0, 3, 99)", x.soon(0, 3, 99), 90);
            due("soon(0, 4, 99)", x.soon(0, 4, 99), 99);
            due("soon(8, 0, 99)", x.soon(8, 0, 99), 99);
            x.going(8, 8, 1);
            due("soon(8, 0, 50)", x.soon(8, 0, 50), 50);
        });
        edge(21, "all around a ring of nine", () -> {
            NineWells x = inARow(9, 1, 0);
            x.going(8, 0, 1);
            due("soon(1, 0, 99)", x.soon(1, 0, 99), 8);
        });
        beyond(21, "c 0", x -> x.soon(0, 1, 0));
        beyond(21, "c 100", x -> x.soon(0, 1, 100));
        beyond(21, "c -1", x -> x.soon(0, 1, -1));
        beyond(21, "the least int for c", x -> x.soon(0, 1, MIN));
        beyond(21, "the greatest int for c", x -> x.soon(0, 1, MAX));
        beyond(21, "c 0 to itself", x -> x.soon(0, 0, 0));
        beyond(21, "c 100 to itself", x -> x.soon(0, 0, 100));
        beyond(21, "from WELL -1", x -> x.soon(-1, 0, 5));
        beyond(21, "from the WELL behind the last", x -> x.soon(5, 0, 5));
        beyond(21, "to WELL -1", x -> x.soon(0, -1, 5));
        beyond(21, "to the WELL behind the last", x -> x.soon(0, 5, 5));
        beyond(21, "from a WELL that there isn't to itself", x -> x.soon(5, 5, 5));
        beyond(21, "from WELL -1 to itself", x -> x.soon(-1, -1, 5));
        beyond(21, "from the greatest to the least int", x -> x.soon(MAX, MIN, 5));
        onlyAsks(21, "soon(0, 2, 99)", 4, x -> x.soon(0, 2, 99));
    }

    private static void cheap() {
        edge(22, "p is 0 at least", () -> due("cheap(0, 8, 0)", inARow(9, 1, 99).cheap(0, 8, 0), 0));
        edge(22, "p is 99 at most", () -> due("cheap(1, 0, 99)", inARow(2, 1, 99).cheap(1, 0, 99), 99));
        edge(22, "0 to itself, be there a GOING to itself or not", () -> {
            NineWells x = fresh(1);
            x.set(0, 0, 99);
            due("cheap(0, 0, 99)", x.cheap(0, 0, 99), 0);
            x.going(0, 0, 1);
            due("cheap(0, 0, 99)", x.cheap(0, 0, 99), 0);
        });
        edge(22, "the TOLL is of the WELL to which a GOING leads, not of the one it leaves", () -> {
            NineWells x = inARow(3, 30, 0);
            x.set(0, 0, 70);
            x.set(1, 0, 10);
            x.set(2, 0, 5);
            due("cheap(0, 1, 99)", x.cheap(0, 1, 99), 10);
            due("cheap(0, 2, 99)", x.cheap(0, 2, 99), 15);
            due("cheap(1, 2, 99)", x.cheap(1, 2, 99), 5);
        });
        edge(22, "by GOINGS while they cost no more than CARRYING", () -> {
            NineWells x = inARow(9, 30, 12);
            due("cheap(0, 8, 99)", x.cheap(0, 8, 99), 96);
            due("cheap(0, 8, 97)", x.cheap(0, 8, 97), 96);
            due("cheap(0, 8, 96)", x.cheap(0, 8, 96), 96);
            due("cheap(0, 8, 95)", x.cheap(0, 8, 95), 95);
        });
        edge(22, "TOLLS of 0 and of 99", () -> {
            due("cheap(0, 8, 99), all 0", inARow(9, 30, 0).cheap(0, 8, 99), 0);
            due("cheap(0, 1, 99), of 99", inARow(9, 30, 99).cheap(0, 1, 99), 99);
            due("cheap(0, 2, 99), twice 99", inARow(9, 30, 99).cheap(0, 2, 99), 99);
            due("cheap(8, 0, 7), no GOING", inARow(9, 30, 0).cheap(8, 0, 7), 7);
        });
        beyond(22, "p -1", x -> x.cheap(0, 1, -1));
        beyond(22, "p 100", x -> x.cheap(0, 1, 100));
        beyond(22, "the least int for p", x -> x.cheap(0, 1, MIN));
        beyond(22, "the greatest int for p", x -> x.cheap(0, 1, MAX));
        beyond(22, "p -1 to itself", x -> x.cheap(0, 0, -1));
        beyond(22, "p 100 to itself", x -> x.cheap(0, 0, 100));
        beyond(22, "from WELL -1", x -> x.cheap(-1, 0, 5));
        beyond(22, "from the WELL behind the last", x -> x.cheap(5, 0, 5));
        beyond(22, "to WELL -1", x -> x.cheap(0, -1, 5));
        beyond(22, "to the WELL behind the last", x -> x.cheap(0, 5, 5));
        beyond(22, "from a WELL that there isn't to itself", x -> x.cheap(5, 5, 5));
        beyond(22, "from the greatest to the least int", x -> x.cheap(MAX, MIN, 5));
        onlyAsks(22, "cheap(0, 1, 99)", 7, x -> x.cheap(0, 1, 99));
    }

    private static void rings() {
        edge(23, "without WELLS: none", () -> {
            due("rings(0)", new NineWells().rings(0), 0);
            due("rings(1)", new NineWells().rings(1), 0);
        });
        edge(23, "no GOINGS: all nine are DEEP, no rings", () -> {
            due("rings(0)", fresh(9).rings(0), 511);
            due("rings(1)", fresh(9).rings(1), 0);
        });
        edge(23, "each of nine to itself: nine rings", () -> {
            NineWells x = fresh(9);
            for (int w = 0; w < 9; w++) x.going(w, w, 1);
            due("rings(0)", x.rings(0), 0);
            due("rings(1)", x.rings(1), 9);
        });
        edge(23, "a ring of all nine: one", () -> {
            NineWells x = fresh(9);
            for (int w = 0; w < 9; w++) x.going(w, (w + 4) % 9, 1);
            due("rings(0)", x.rings(0), 0);
            due("rings(1)", x.rings(1), 1);
        });
        edge(23, "one that leads into a ring is DEEP", () -> {
            NineWells x = fresh(3);
            x.going(0, 1, 1);
            x.going(1, 2, 1);
            x.going(2, 1, 1);
            due("rings(0)", x.rings(0), 1);
            due("rings(1)", x.rings(1), 1);
        });
        edge(23, "a row of nine that ends: all are DEEP", () -> {
            NineWells x = inARow(9, 1, 0);
            due("rings(0)", x.rings(0), 511);
            due("rings(1)", x.rings(1), 0);
            x.going(8, 8, 1);
            due("rings(0), the last to itself", x.rings(0), 255);
            due("rings(1), the last to itself", x.rings(1), 1);
        });
        beyond(23, "what -1", x -> x.rings(-1));
        beyond(23, "what 2", x -> x.rings(2));
        beyond(23, "the least int for what", x -> x.rings(MIN));
        beyond(23, "the greatest int for what", x -> x.rings(MAX));
        onlyAsks(23, "rings(0)", 16, x -> x.rings(0));
        onlyAsks(23, "rings(1)", 2, x -> x.rings(1));
    }

    /** From 0 a WALK that comes to WELL 7 on a DAY, 180 and so many; in 7 one stays. */
    private static NineWells farRow(int more) {
        NineWells x = fresh(9);
        for (int w = 0; w < 6; w++) x.going(w, w + 1, 30);
        x.going(6, 7, more);
        x.going(7, 7, 1);
        return x;
    }

    private static void meet() {
        edge(24, "DAY 0: a WELL with itself, though it leads to none", () -> {
            due("meet(0, 0)", fresh(1).meet(0, 0), 0);
            NineWells x = fresh(9);
            x.going(8, 8, 30);
            due("meet(8, 8)", x.meet(8, 8), 0);
        });
        edge(24, "DAY 200 is the last", () -> {
            due("meet(0, 7)", farRow(20).meet(0, 7), 200);
            due("meet(7, 0)", farRow(20).meet(7, 0), 200);
        });
        edge(24, "DAY 201 is too late", () -> {
            due("meet(0, 7)", farRow(21).meet(0, 7), NONE);
            due("meet(7, 0)", farRow(21).meet(7, 0), NONE);
        });
        edge(24, "two that go on by 1 DAY each meet on DAY 1", () -> {
            NineWells x = fresh(3);
            x.going(0, 2, 1);
            x.going(1, 2, 1);
            due("meet(0, 1)", x.meet(0, 1), 1);
        });
        edge(24, "they meet on the DAY on which both WALKS end", () -> {
            NineWells x = fresh(3);
            x.going(0, 2, 30);
            x.going(1, 2, 30);
            due("meet(0, 1)", x.meet(0, 1), 30);
        });
        edge(24, "a WALK that has ended is nowhere on the DAY behind it", () -> {
            NineWells x = fresh(3);
            x.going(0, 2, 4);
            x.going(1, 2, 3);
            due("meet(0, 1)", x.meet(0, 1), NONE);
            due("meet(1, 0)", x.meet(1, 0), NONE);
            due("meet(2, 0)", x.meet(2, 0), NONE);
        });
        edge(24, "both nowhere isn't one WELL, nor is both below to one", () -> {
            NineWells x = fresh(4);
            due("meet(0, 1), both end at once", x.meet(0, 1), NONE);
            x.going(0, 2, 5);
            x.going(1, 2, 6);
            due("meet(0, 1), both below", x.meet(0, 1), NONE);
        });
        edge(24, "one that is below as the other comes isn't there", () -> {
            NineWells x = fresh(2);
            x.going(0, 1, 3);
            x.going(1, 1, 2);
            due("meet(0, 1)", x.meet(0, 1), NONE);
            x.going(1, 1, 3);
            due("meet(0, 1)", x.meet(0, 1), 3);
        });
        edge(24, "in one WELL on unlike DAYS isn't meeting", () -> {
            NineWells x = fresh(2);
            x.going(0, 1, 7);
            x.going(1, 0, 7);
            due("meet(0, 1)", x.meet(0, 1), NONE);
        });
        edge(24, "the first of several DAYS", () -> {
            NineWells x = fresh(2);
            x.going(0, 0, 4);
            x.going(1, 0, 12);
            due("meet(0, 1)", x.meet(0, 1), 12);
        });
        beyond(24, "one -1", x -> x.meet(-1, 0));
        beyond(24, "one behind the last", x -> x.meet(5, 0));
        beyond(24, "other -1", x -> x.meet(0, -1));
        beyond(24, "other behind the last", x -> x.meet(0, 5));
        beyond(24, "a WELL that there isn't with itself", x -> x.meet(5, 5));
        beyond(24, "WELL -1 with itself", x -> x.meet(-1, -1));
        beyond(24, "the least and the greatest int", x -> x.meet(MIN, MAX));
        beyond(24, "a WELL that there isn't ahead of NONE", x -> x.meet(4, 5));
        refused(24, "two that never meet", NONE, Edges::lived, x -> x.meet(0, 3));
        refused(24, "two of which one ends at once", NONE, Edges::lived, x -> x.meet(4, 0));
        onlyAsks(24, "meet(4, 4)", 0, x -> x.meet(4, 4));
    }

    private static void tenth() {
        edge(25, "of several the least", () -> {
            NineWells x = fresh(9);
            for (int w = 8; w >= 0; w--) {
                x.going(w, 0, 30);
                due("tenth()", x.tenth(), w);
            }
        });
        edge(25, "the most DAYS, by 1 more", () -> {
            NineWells x = fresh(9);
            for (int w = 0; w < 9; w++) {
                x.going(w, w, w + 1);
                due("tenth()", x.tenth(), w);
            }
        });
        edge(25, "one that leads to none doesn't count, whatever its DAYS", () -> {
            NineWells x = fresh(3);
            x.going(0, -1, 30);
            x.going(2, 0, 1);
            due("tenth()", x.tenth(), 2);
        });
        edge(25, "DAYS of 1, and to itself", () -> {
            NineWells x = fresh(1);
            x.going(0, 0, 1);
            due("tenth()", x.tenth(), 0);
        });
        refused(25, "no WELLS", NONE, NineWells::new, x -> x.tenth());
        refused(25, "all nine lead to none", NONE, () -> { NineWells x = fresh(9); x.going(4, -1, 30); return x; }, x -> x.tenth());
        onlyAsks(25, "tenth()", 3, x -> x.tenth());
    }

    public static void main(String[] args) {
        then();
        in();
        seen();
        round();
        soon();
        cheap();
        rings();
        meet();
        tenth();
        end("AheadEdgesTest", 17, 25);
    }
}
