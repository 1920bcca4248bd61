/** Promises 1 to 11, wells and things: each boundary that they, or the terms they use, name. */
public final class WellsEdgesTest extends Edges {

    private static void aNewObject() {
        edge(1, "there are no WELLS", () -> {
            due("count(1)", new NineWells().count(1), 0);
            due("ofWell(0, 0)", new NineWells().ofWell(0, 0), BEYOND);
        });
        edge(1, "there are no THINGS", () -> {
            due("count(2)", new NineWells().count(2), 0);
            due("count(3)", new NineWells().count(3), 0);
            due("ofThing(0, 0)", new NineWells().ofThing(0, 0), BEYOND);
        });
        edge(1, "there are no FINDS", () -> {
            due("count(4)", new NineWells().count(4), 0);
            due("agrees(0)", new NineWells().agrees(0), BEYOND);
            due("forget()", new NineWells().forget(), 0);
        });
        edge(1, "TODAY is 0 at first", () -> due("count(0)", new NineWells().count(0), 0));
        edge(1, "z is 1 at first", () -> due("count(8)", new NineWells().count(8), 1));
        edge(1, "THE TAPE is empty", () -> {
            due("count(5)", new NineWells().count(5), 0);
            due("text(0)", new NineWells().text(0), -10);
        });
        edge(1, "no numbers wait", () -> due("count(6)", new NineWells().count(6), 0));
        edge(1, "THE TRACE is empty", () -> {
            due("count(7)", new NineWells().count(7), 0);
            due("trace(0)", new NineWells().trace(0), NONE);
        });
        edge(1, "there are no TEXTS: SLOWS gives 0, TAKES 1", () -> {
            due("law(0, ..)", new NineWells().law(0, 9, 9, 9, 9), 0);
            due("law(1, ..)", new NineWells().law(1, 0, 0, 0, 0), 1);
        });
        edge(1, "SHEETS 0 to 3 are missing at first", () -> {
            for (int s = 0; s <= 3; s++) due("put(" + s + ", 0, 0)", new NineWells().put(s, 0, 0), NONE);
        });
        edge(1, "there is no IMAGE, and none was done", () -> {
            due("restore()", new NineWells().restore(), NONE);
            due("image()", new NineWells().image(), 1);
        });
        edge(1, "no ERRORS are told", () -> {
            for (int k = 1; k <= 5; k++) due("told(" + k + ")", new NineWells().told(k), 0);
        });
        edge(1, "an object has nothing of one that was made ahead", () -> {
            NineWells other = lived();
            due("the new one", whatIsAsked(new NineWells()), whatIsAsked(new NineWells()));
            due("count(1) of the new one", new NineWells().count(1), 0);
            due("count(1) of the other", other.count(1), 5);
        });
    }

    private static void well() {
        edge(2, "WELLS are numbered from 0, the ninth is the last", () -> {
            NineWells x = new NineWells();
            for (int i = 0; i <= 8; i++) due("well()", x.well(), i);
            due("count(1)", x.count(1), 9);
        });
        edge(2, "a tenth is FULL, and so is one more", () -> {
            NineWells x = fresh(9);
            due("well()", x.well(), FULL);
            due("well()", x.well(), FULL);
            due("count(1)", x.count(1), 9);
        });
        refused(2, "a tenth WELL", FULL, Edges::brim, x -> x.well());
        int[] atFirst = {-1, 1, 0, 0, 0, 0};
        edge(2, "a WELL leads to none, of 1 DAY, TOLL 0, nobody FISHES, nothing is in it: at first", () -> {
            for (int k = 0; k <= 5; k++) due("ofWell(0, " + k + ")", fresh(1).ofWell(0, k), atFirst[k]);
            for (int k = 0; k <= 5; k++) due("ofWell(8, " + k + ")", fresh(9).ofWell(8, k), atFirst[k]);
        });
        edge(2, "a WELL is as at first where the IMAGE had fewer", () -> {
            NineWells x = fresh(1);
            x.image();
            x.well();
            x.going(1, 0, 30);
            x.set(1, 0, 99);
            x.set(1, 1, 1);
            x.restore();
            due("well()", x.well(), 1);
            for (int k = 0; k <= 5; k++) due("ofWell(1, " + k + ")", x.ofWell(1, k), atFirst[k]);
        });
        edge(2, "a new WELL leaves those ahead as they are", () -> {
            NineWells x = fresh(2);
            x.going(1, 0, 7);
            x.set(1, 0, 8);
            x.set(1, 1, 1);
            x.well();
            due("ofWell(1, ..)", x.ofWell(1, 0) * 1000 + x.ofWell(1, 1) * 100 + x.ofWell(1, 2) * 10 + x.ofWell(1, 3), 781);
        });
    }

    private static void going() {
        edge(3, "where it led: none at first", () -> due("going(0, 1, 1)", fresh(2).going(0, 1, 1), -1));
        edge(3, "where it led: the one ahead, whatever is told now", () -> {
            NineWells x = fresh(9);
            x.going(8, 0, 1);
            due("going(8, 0, 2)", x.going(8, 0, 2), 0);
            due("going(8, 8, 2)", x.going(8, 8, 2), 0);
            due("going(8, -1, 2)", x.going(8, -1, 2), 8);
            due("going(8, 7, 2)", x.going(8, 7, 2), -1);
            due("ofWell(8, 0)", x.ofWell(8, 0), 7);
        });
        edge(3, "to the same WELL, too", () -> {
            NineWells x = fresh(1);
            due("going(0, 0, 1)", x.going(0, 0, 1), -1);
            due("ofWell(0, 0)", x.ofWell(0, 0), 0);
        });
        edge(3, "to the last WELL", () -> {
            NineWells x = fresh(9);
            due("going(0, 8, 1)", x.going(0, 8, 1), -1);
            due("ofWell(0, 0)", x.ofWell(0, 0), 8);
        });
        edge(3, "to none", () -> {
            NineWells x = fresh(2);
            x.going(0, 1, 4);
            due("going(0, -1, 6)", x.going(0, -1, 6), 1);
            due("ofWell(0, 0)", x.ofWell(0, 0), -1);
            due("ofWell(0, 1)", x.ofWell(0, 1), 6);
        });
        edge(3, "DAYS are 1 at least", () -> {
            NineWells x = fresh(2);
            x.going(0, 1, 5);
            due("going(0, 1, 1)", x.going(0, 1, 1), 1);
            due("ofWell(0, 1)", x.ofWell(0, 1), 1);
        });
        edge(3, "DAYS are 30 at most", () -> {
            NineWells x = fresh(2);
            due("going(0, 1, 30)", x.going(0, 1, 30), -1);
            due("ofWell(0, 1)", x.ofWell(0, 1), 30);
        });
        edge(3, "the GOINGS of other WELLS stay", () -> {
            NineWells x = fresh(3);
            x.going(1, 2, 9);
            due("ofWell(0, 0)", x.ofWell(0, 0), -1);
            due("ofWell(2, 0)", x.ofWell(2, 0), -1);
        });
        edge(3, "a THING that is below goes on as it went", () -> {
            NineWells x = fresh(3);
            x.going(0, 1, 3);
            letNew(x, 0, 0, 0);
            x.days(1);
            x.going(0, 2, 9);
            due("ofThing(0, 3)", x.ofThing(0, 3), 1);
            due("ofThing(0, 4)", x.ofThing(0, 4), 3);
        });
        beyond(3, "WELL -1", x -> x.going(-1, 0, 1));
        beyond(3, "the WELL behind the last", x -> x.going(5, 0, 1));
        beyond(3, "the least int for a WELL", x -> x.going(MIN, 0, 1));
        beyond(3, "the greatest int for a WELL", x -> x.going(MAX, 0, 1));
        beyond(3, "to -2", x -> x.going(0, -2, 1));
        beyond(3, "to the WELL behind the last", x -> x.going(0, 5, 1));
        beyond(3, "to the least int", x -> x.going(0, MIN, 1));
        beyond(3, "to the greatest int", x -> x.going(0, MAX, 1));
        beyond(3, "0 DAYS", x -> x.going(0, 2, 0));
        beyond(3, "31 DAYS", x -> x.going(0, 2, 31));
        beyond(3, "the least int of DAYS", x -> x.going(0, 2, MIN));
        beyond(3, "the greatest int of DAYS", x -> x.going(0, 2, MAX));
        beyond(3, "0 DAYS to none", x -> x.going(0, -1, 0));
        beyond(3, "31 DAYS to none", x -> x.going(0, -1, 31));
        refused(3, "WELL 9 of nine", BEYOND, Edges::brim, x -> x.going(9, 0, 1));
        refused(3, "to WELL 9 of nine", BEYOND, Edges::brim, x -> x.going(0, 9, 1));
        refused(3, "WELL 0 of none", BEYOND, NineWells::new, x -> x.going(0, -1, 1));
    }

    private static void set() {
        edge(4, "a TOLL is 0 at least", () -> {
            NineWells x = fresh(1);
            x.set(0, 0, 50);
            due("set(0, 0, 0)", x.set(0, 0, 0), 50);
            due("ofWell(0, 2)", x.ofWell(0, 2), 0);
        });
        edge(4, "a TOLL is 99 at most", () -> {
            NineWells x = fresh(1);
            due("set(0, 0, 99)", x.set(0, 0, 99), 0);
            due("ofWell(0, 2)", x.ofWell(0, 2), 99);
        });
        edge(4, "FISHES is 0 or 1", () -> {
            NineWells x = fresh(1);
            due("set(0, 1, 1)", x.set(0, 1, 1), 0);
            due("ofWell(0, 3)", x.ofWell(0, 3), 1);
            due("set(0, 1, 0)", x.set(0, 1, 0), 1);
            due("ofWell(0, 3)", x.ofWell(0, 3), 0);
        });
        edge(4, "one of the two stays as the other is set, and so does another WELL", () -> {
            NineWells x = fresh(2);
            x.set(0, 0, 7);
            due("ofWell(0, 3)", x.ofWell(0, 3), 0);
            x.set(0, 1, 1);
            due("ofWell(0, 2)", x.ofWell(0, 2), 7);
            due("ofWell(1, 2)", x.ofWell(1, 2), 0);
            due("ofWell(1, 3)", x.ofWell(1, 3), 0);
        });
        edge(4, "the last of nine WELLS has them", () -> {
            NineWells x = fresh(9);
            due("set(8, 0, 9)", x.set(8, 0, 9), 0);
            due("set(8, 0, 8)", x.set(8, 0, 8), 9);
        });
        beyond(4, "WELL -1", x -> x.set(-1, 0, 1));
        beyond(4, "the WELL behind the last", x -> x.set(5, 0, 1));
        beyond(4, "the least int for a WELL", x -> x.set(MIN, 1, 1));
        beyond(4, "the greatest int for a WELL", x -> x.set(MAX, 1, 1));
        beyond(4, "what -1", x -> x.set(0, -1, 1));
        beyond(4, "what 2", x -> x.set(0, 2, 1));
        beyond(4, "the least int for what", x -> x.set(0, MIN, 1));
        beyond(4, "the greatest int for what", x -> x.set(0, MAX, 1));
        beyond(4, "TOLL -1", x -> x.set(0, 0, -1));
        beyond(4, "TOLL 100", x -> x.set(0, 0, 100));
        beyond(4, "the least int for a TOLL", x -> x.set(0, 0, MIN));
        beyond(4, "the greatest int for a TOLL", x -> x.set(0, 0, MAX));
        beyond(4, "FISHES -1", x -> x.set(0, 1, -1));
        beyond(4, "FISHES 2", x -> x.set(0, 1, 2));
        beyond(4, "FISHES 99, which a TOLL may be", x -> x.set(0, 1, 99));
    }

    private static void ofWell() {
        edge(5, "what is 0 to 5", () -> {
            NineWells x = fresh(9);
            x.going(8, 7, 30);
            x.set(8, 0, 99);
            x.set(8, 1, 1);
            int[] want = {7, 30, 99, 1, 0, 0};
            for (int k = 0; k <= 5; k++) due("ofWell(8, " + k + ")", x.ofWell(8, k), want[k]);
        });
        edge(5, "THINGS in it, as bits: none, the first, the last, all ten", () -> {
            NineWells x = fresh(9);
            for (int t = 0; t < 10; t++) x.thing(0, 0);
            due("ofWell(8, 4)", x.ofWell(8, 4), 0);
            x.let(0, 8);
            due("ofWell(8, 4)", x.ofWell(8, 4), 1);
            x.let(9, 8);
            due("ofWell(8, 4)", x.ofWell(8, 4), 513);
            for (int t = 1; t < 9; t++) x.let(t, 8);
            due("ofWell(8, 4)", x.ofWell(8, 4), 1023);
            due("ofWell(7, 4)", x.ofWell(7, 4), 0);
        });
        edge(5, "THINGS on their way there, as bits: none, the first, the last, all ten", () -> {
            NineWells x = fresh(2);
            x.going(0, 1, 30);
            for (int t = 0; t < 10; t++) x.thing(0, 0);
            x.let(0, 0);
            due("ofWell(1, 5)", x.ofWell(1, 5), 0);
            x.days(1);
            due("ofWell(1, 5)", x.ofWell(1, 5), 1);
            for (int t = 9; t > 0; t--) x.let(t, 0);
            x.days(1);
            due("ofWell(1, 5)", x.ofWell(1, 5), 1023);
            due("ofWell(0, 5)", x.ofWell(0, 5), 0);
            due("ofWell(0, 4)", x.ofWell(0, 4), 0);
            due("ofWell(1, 4)", x.ofWell(1, 4), 0);
        });
        edge(5, "what was fished out at a WELL isn't in it", () -> {
            NineWells x = fresh(1);
            letNew(x, 0, 0, 0);
            x.fish(0);
            due("ofWell(0, 4)", x.ofWell(0, 4), 0);
            due("ofWell(0, 5)", x.ofWell(0, 5), 0);
        });
        beyond(5, "WELL -1", x -> x.ofWell(-1, 0));
        beyond(5, "the WELL behind the last", x -> x.ofWell(5, 0));
        beyond(5, "the least int for a WELL", x -> x.ofWell(MIN, 4));
        beyond(5, "the greatest int for a WELL", x -> x.ofWell(MAX, 5));
        beyond(5, "what -1", x -> x.ofWell(0, -1));
        beyond(5, "what 6", x -> x.ofWell(0, 6));
        beyond(5, "the least int for what", x -> x.ofWell(0, MIN));
        beyond(5, "the greatest int for what", x -> x.ofWell(0, MAX));
        refused(5, "WELL 9 of nine", BEYOND, Edges::brim, x -> x.ofWell(9, 0));
        onlyAsks(5, "ofWell(2, 2)", 99, x -> x.ofWell(2, 2));
    }

    private static int two(NineWells x, int well) {
        return x.ofWell(well, 0) * 100 + x.ofWell(well, 1);
    }

    private static void goings() {
        edge(6, "a SHEET without numbers: none came", () -> {
            NineWells x = fresh(1);
            x.sheet(0, 8, 0);
            due("goings(0)", x.goings(0), 0);
            due("WELL 0", two(x, 0), -99);
        });
        edge(6, "a two that isn't whole doesn't come", () -> {
            NineWells x = fresh(2);
            row(x, 0, 8, 0);
            due("goings(0) of one number", x.goings(0), 0);
            due("WELL 0", two(x, 0), -99);
            row(x, 0, 8, 1, 2, 0);
            due("goings(0) of three numbers", x.goings(0), 1);
            due("WELL 0", two(x, 0), 102);
            due("WELL 1", two(x, 1), -99);
        });
        edge(6, "a two that has no WELL doesn't come", () -> {
            NineWells x = fresh(2);
            row(x, 0, 8, 1, 2, 0, 3, 0, 4);
            due("goings(0)", x.goings(0), 2);
            due("WELL 1", two(x, 1), 3);
            x.well();
            due("WELL 2", two(x, 2), -99);
            due("goings(0) with one WELL more", x.goings(0), 3);
        });
        edge(6, "without WELLS none comes", () -> {
            NineWells x = new NineWells();
            row(x, 0, 8, -1, 1);
            due("goings(0)", x.goings(0), 0);
        });
        edge(6, "nine come of a SHEET of forty", () -> {
            NineWells x = fresh(9);
            x.sheet(3, 8, 40);
            for (int i = 0; i < 40; i++) x.put(3, i, i % 2 == 0 ? i / 2 % 9 : i / 2 + 1);
            due("goings(3)", x.goings(3), 9);
            for (int w = 0; w < 9; w++) due("WELL " + w, two(x, w), 101 * w + 1);
        });
        edge(6, "where to is -1 at least", () -> {
            NineWells x = fresh(2);
            x.going(0, 1, 5);
            row(x, 0, 8, -1, 3, -2, 3);
            due("goings(0)", x.goings(0), 1);
            due("WELL 0", two(x, 0), -97);
            due("WELL 1", two(x, 1), -99);
        });
        edge(6, "where to is the last WELL at most", () -> {
            NineWells x = fresh(3);
            row(x, 0, 8, 2, 3, 3, 3);
            due("goings(0)", x.goings(0), 1);
            due("WELL 0", two(x, 0), 203);
            due("WELL 1", two(x, 1), -99);
        });
        edge(6, "DAYS are 1 at least", () -> {
            NineWells x = fresh(2);
            row(x, 0, 8, 1, 1, 1, 0);
            due("goings(0)", x.goings(0), 1);
            due("WELL 0", two(x, 0), 101);
            due("WELL 1", two(x, 1), -99);
        });
        edge(6, "DAYS are 30 at most", () -> {
            NineWells x = fresh(2);
            row(x, 0, 8, 1, 30, 1, 31);
            due("goings(0)", x.goings(0), 1);
            due("WELL 0", two(x, 0), 130);
            due("WELL 1", two(x, 1), -99);
        });
        edge(6, "DAYS with -1 (none) are likewise 1 to 30", () -> {
            NineWells x = fresh(1);
            row(x, 0, 8, -1, 0);
            due("goings(0)", x.goings(0), 0);
            row(x, 0, 8, -1, 31);
            due("goings(0)", x.goings(0), 0);
        });
        edge(6, "up to the first that isn't as told: those behind it don't come", () -> {
            NineWells x = fresh(3);
            row(x, 0, 8, 1, 2, 9, 3, 2, 4);
            due("goings(0)", x.goings(0), 1);
            due("WELL 1", two(x, 1), -99);
            due("WELL 2", two(x, 2), -99);
        });
        edge(6, "WELLS behind what came stay", () -> {
            NineWells x = fresh(2);
            x.going(1, 0, 9);
            row(x, 0, 32, 0, 4);
            due("goings(0)", x.goings(0), 1);
            due("WELL 1", two(x, 1), 9);
        });
        edge(6, "SHEETS of 8, 16 and 32 bits are read alike, -1 too", () -> {
            for (int bits = 8; bits <= 32; bits *= 2) {
                NineWells x = fresh(2);
                row(x, 2, bits, 1, 30, -1, 1);
                due("goings(2) of " + bits, x.goings(2), 2);
                due("WELL 0", two(x, 0), 130);
                due("WELL 1", two(x, 1), -99);
            }
        });
        beyond(6, "SHEET -1", x -> x.goings(-1));
        beyond(6, "SHEET 4", x -> x.goings(4));
        beyond(6, "the least int for a SHEET", x -> x.goings(MIN));
        beyond(6, "the greatest int for a SHEET", x -> x.goings(MAX));
        refused(6, "a SHEET that is missing", NONE, Edges::lived, x -> x.goings(3));
        refused(6, "SHEET 0 that is missing", NONE, NineWells::new, x -> x.goings(0));
    }

    private static void thing() {
        edge(7, "THINGS are numbered from 0, the tenth is the last", () -> {
            NineWells x = new NineWells();
            for (int i = 0; i <= 9; i++) due("thing(0, 0)", x.thing(0, 0), i);
            due("thing(0, 0)", x.thing(0, 0), FULL);
            due("count(2)", x.count(2), 10);
        });
        edge(7, "KINDS are 0 to 6", () -> {
            NineWells x = new NineWells();
            for (int kind = 0; kind <= 6; kind++) due("thing(" + kind + ", 0)", x.thing(kind, 0), kind);
            for (int kind = 0; kind <= 6; kind++) due("ofThing(" + kind + ", 0)", x.ofThing(kind, 0), kind);
        });
        edge(7, "m is 0 at least", () -> {
            NineWells x = new NineWells();
            due("thing(0, 0)", x.thing(0, 0), 0);
            due("ofThing(0, 1)", x.ofThing(0, 1), 0);
        });
        edge(7, "m is 30 at most", () -> {
            NineWells x = new NineWells();
            due("thing(0, 30)", x.thing(0, 30), 0);
            due("ofThing(0, 1)", x.ofThing(0, 1), 30);
        });
        int[] atFirst = {3, 8, 2, -1, 0, 0, -1, 0};
        edge(7, "it is out, at nobody's, SPENT 0: at first", () -> {
            NineWells x = fresh(1);
            x.thing(3, 8);
            for (int k = 0; k <= 7; k++) due("ofThing(0, " + k + ")", x.ofThing(0, k), atFirst[k]);
        });
        edge(7, "a THING is as at first where the IMAGE had fewer", () -> {
            NineWells x = fresh(1);
            x.going(0, 0, 2);
            x.set(0, 0, 9);
            x.image();
            letNew(x, 0, 0, 0);
            x.days(4);
            x.restore();
            due("thing(3, 8)", x.thing(3, 8), 0);
            for (int k = 0; k <= 7; k++) due("ofThing(0, " + k + ")", x.ofThing(0, k), atFirst[k]);
        });
        beyond(7, "KIND -1", x -> x.thing(-1, 0));
        beyond(7, "KIND 7", x -> x.thing(7, 0));
        beyond(7, "the least int for a KIND", x -> x.thing(MIN, 0));
        beyond(7, "the greatest int for a KIND", x -> x.thing(MAX, 0));
        beyond(7, "m -1", x -> x.thing(0, -1));
        beyond(7, "m 31", x -> x.thing(0, 31));
        beyond(7, "the least int for m", x -> x.thing(0, MIN));
        beyond(7, "the greatest int for m", x -> x.thing(0, MAX));
        refused(7, "an eleventh THING", FULL, Edges::brim, x -> x.thing(6, 30));
        refused(7, "KIND 7 ahead of FULL", BEYOND, Edges::brim, x -> x.thing(7, 0));
        refused(7, "m 31 ahead of FULL", BEYOND, Edges::brim, x -> x.thing(0, 31));
    }

    private static void ofThing() {
        edge(8, "what is 0 to 7", () -> {
            NineWells x = fresh(2);
            x.going(0, 1, 30);
            letNew(x, 2, 3, 0);
            int[] want = {2, 3, 0, 0, 0, 0, 33, 1};
            for (int k = 0; k <= 7; k++) due("ofThing(0, " + k + ")", x.ofThing(0, k), want[k]);
        });
        edge(8, "in a WELL, below, out: 0, 1, 2, with the WELL and the DAYS still", () -> {
            NineWells x = fresh(9);
            x.going(8, 7, 2);
            due("thing(0, 0)", x.thing(0, 0), 0);
            due("out", x.ofThing(0, 2) * 1000 + x.ofThing(0, 3) * 10 + x.ofThing(0, 4), 1990);
            x.let(0, 8);
            due("in 8", x.ofThing(0, 2) * 1000 + x.ofThing(0, 3) * 10 + x.ofThing(0, 4), 80);
            x.days(1);
            due("below, to 7, 2 DAYS still", x.ofThing(0, 2) * 1000 + x.ofThing(0, 3) * 10 + x.ofThing(0, 4), 1072);
            x.days(1);
            due("below, to 7, 1 DAY still", x.ofThing(0, 2) * 1000 + x.ofThing(0, 3) * 10 + x.ofThing(0, 4), 1071);
            x.days(1);
            due("in 7", x.ofThing(0, 2) * 1000 + x.ofThing(0, 3) * 10 + x.ofThing(0, 4), 70);
            x.fish(0);
            due("out at 7", x.ofThing(0, 2) * 1000 + x.ofThing(0, 3) * 10 + x.ofThing(0, 4), 2070);
        });
        edge(8, "SPENT: TOLLS of 0 and of 99", () -> {
            NineWells x = fresh(2);
            x.going(0, 1, 1);
            x.going(1, 0, 1);
            x.set(0, 0, 99);
            letNew(x, 0, 0, 0);
            x.days(2);
            due("ofThing(0, 5), up in 1", x.ofThing(0, 5), 0);
            x.days(2);
            due("ofThing(0, 5), up in 0", x.ofThing(0, 5), 99);
            x.days(4);
            due("ofThing(0, 5), once more", x.ofThing(0, 5), 198);
        });
        edge(8, "LASTS -1: it is out, it is below, its WELL leads to none", () -> {
            NineWells x = fresh(2);
            x.going(0, 1, 5);
            x.thing(0, 0);
            due("out", x.ofThing(0, 6), -1);
            x.let(0, 0);
            due("in 0", x.ofThing(0, 6), 5);
            x.days(1);
            due("below", x.ofThing(0, 6), -1);
            x.days(5);
            due("in 1, which leads to none", x.ofThing(0, 6), -1);
            x.fish(0);
            due("out at 1", x.ofThing(0, 6), -1);
            x.going(1, 0, 5);
            due("out at 1, which leads somewhere", x.ofThing(0, 6), -1);
        });
        beyond(8, "THING -1", x -> x.ofThing(-1, 0));
        beyond(8, "the THING behind the last", x -> x.ofThing(7, 0));
        beyond(8, "the least int for a THING", x -> x.ofThing(MIN, 0));
        beyond(8, "the greatest int for a THING", x -> x.ofThing(MAX, 7));
        beyond(8, "what -1", x -> x.ofThing(0, -1));
        beyond(8, "what 8", x -> x.ofThing(0, 8));
        beyond(8, "the least int for what", x -> x.ofThing(0, MIN));
        beyond(8, "the greatest int for what", x -> x.ofThing(0, MAX));
        refused(8, "THING 10 of ten", BEYOND, Edges::brim, x -> x.ofThing(10, 0));
        onlyAsks(8, "ofThing(6, 3)", 0, x -> x.ofThing(6, 3));
    }

    private static int lasts(int kind, int m, int days) {
        NineWells x = fresh(2);
        x.going(0, 1, days);
        return x.ofThing(letNew(x, kind, m, 0), 6);
    }

    private static void whatItLasts() {
        edge(8, "LASTS of a THING: its DAYS", () -> {
            due("of 1 DAY", lasts(0, 30, 1), 1);
            due("of 30 DAYS", lasts(0, 30, 30), 30);
        });
        edge(8, "LASTS of a LIGHT one, and of a CORK: less 1, 1 at least", () -> {
            for (int kind : new int[] {1, 4}) {
                due("of 1 DAY", lasts(kind, 7, 1), 1);
                due("of 2 DAYS", lasts(kind, 7, 2), 1);
                due("of 3 DAYS", lasts(kind, 7, 3), 2);
                due("of 30 DAYS", lasts(kind, 7, 30), 29);
            }
        });
        edge(8, "LASTS of a HEAVY one: and m, of 0 and of 30", () -> {
            due("m 0", lasts(2, 0, 1), 1);
            due("m 30", lasts(2, 30, 30), 60);
        });
        edge(8, "LASTS of a COLD one: twice, of 1 and of 30", () -> {
            due("of 1 DAY", lasts(3, 9, 1), 2);
            due("of 30 DAYS", lasts(3, 9, 30), 60);
        });
        edge(8, "LASTS of a SUNK one: as HEAVY, m of 0 and of 30", () -> {
            due("m 0", lasts(6, 0, 1), 1);
            due("m 30", lasts(6, 30, 30), 60);
        });
        edge(8, "LASTS of a PAIR: no others below, nine others below", () -> {
            NineWells x = fresh(2);
            x.going(0, 1, 2);
            int pair = letNew(x, 5, 0, 1);
            x.going(1, 1, 6);
            due("none are below", x.ofThing(pair, 6), 6);
            for (int i = 1; i < 10; i++) letNew(x, 0, 0, 0);
            x.going(1, -1, 6);
            x.days(1);
            x.going(1, 1, 6);
            due("nine are below", x.ofThing(pair, 6), 15);
        });
        edge(8, "LASTS of a PAIR: those on their way to another WELL, in a WELL, or out don't count", () -> {
            NineWells x = fresh(4);
            x.going(0, 1, 9);
            x.going(2, 3, 9);
            letNew(x, 0, 0, 0);
            letNew(x, 0, 0, 2);
            x.days(1);
            letNew(x, 0, 0, 0);
            letNew(x, 0, 0, 1);
            x.thing(0, 0);
            int pair = letNew(x, 5, 0, 0);
            due("one on its way to 1", x.ofThing(pair, 6), 10);
            x.going(0, 3, 9);
            due("one on its way to 3", x.ofThing(pair, 6), 10);
            x.going(0, 2, 9);
            due("none on its way to 2", x.ofThing(pair, 6), 9);
        });
        edge(8, "LASTS of a PAIR, not of another KIND, is more by those below", () -> {
            for (int kind = 0; kind <= 6; kind++) {
                NineWells x = fresh(2);
                x.going(0, 1, 9);
                letNew(x, 0, 0, 0);
                x.days(1);
                due("KIND " + kind, x.ofThing(letNew(x, kind, 0, 0), 6), new int[] {9, 8, 9, 18, 8, 10, 9}[kind]);
            }
        });
        edge(8, "LASTS of a SUNK one: 5 more in MONTHS 5 to 7 (from DAY 150 to DAY 239), and again behind 12 MONTHS", () -> {
            NineWells x = fresh(2);
            x.going(0, 1, 10);
            int sunk = letNew(x, 6, 3, 0);
            int[] days = {0, 149, 150, 239, 240, 359, 360, 509, 510, 599, 600};
            int[] want = {13, 13, 18, 18, 13, 13, 13, 13, 18, 18, 13};
            for (int i = 0; i < days.length; i++) {
                goTo(x, days[i]);
                due("on DAY " + days[i], x.ofThing(sunk, 6), want[i]);
            }
        });
        edge(8, "LASTS of a HEAVY one isn't more in MONTHS 5 to 7", () -> {
            NineWells x = fresh(2);
            x.going(0, 1, 10);
            int heavy = letNew(x, 2, 3, 0);
            goTo(x, 150);
            due("on DAY 150", x.ofThing(heavy, 6), 13);
        });
        edge(8, "LASTS with what SLOWS gives: below 0 as 0, 0, 30, above 30 as 30", () -> {
            String[] texts = {"0-1", "0-9999*9999", "0", "1", "29", "30", "31", "9999*9999"};
            int[] more = {0, 0, 0, 1, 29, 30, 30, 30};
            for (int i = 0; i < texts.length; i++) {
                NineWells x = fresh(2);
                x.going(0, 1, 30);
                text(x, 0, texts[i]);
                due(texts[i] + " for a HEAVY one", x.ofThing(letNew(x, 2, 30, 0), 6), 60 + more[i]);
                x.going(0, 1, 1);
                due(texts[i] + " for a LIGHT one", x.ofThing(letNew(x, 1, 30, 0), 6), 1 + more[i]);
            }
        });
        edge(8, "LASTS with SLOWS of the WELL it leaves, its KIND, TODAY, its m", () -> {
            NineWells x = fresh(9);
            x.going(8, 1, 3);
            x.going(1, 1, 3);
            x.days(5);
            int thing = letNew(x, 0, 7, 8);
            int sunk = letNew(x, 6, 9, 1);
            text(x, 0, "w");
            due("w", x.ofThing(thing, 6), 3 + 8);
            text(x, 0, "k");
            due("k", x.ofThing(sunk, 6), 12 + 6);
            text(x, 0, "t");
            due("t", x.ofThing(thing, 6), 3 + 5);
            text(x, 0, "m");
            due("m", x.ofThing(thing, 6), 3 + 7);
        });
    }

    private static int staysWith(int kind, int m, int others) {
        NineWells x = fresh(2);
        x.days(1);
        int thing = letNew(x, kind, m, 0);
        for (int i = 0; i < others; i++) letNew(x, 0, 0, 0);
        return x.ofThing(thing, 7);
    }

    private static void whetherItStays() {
        edge(8, "STAYS of a HEAVY one, m 0: never", () -> due("alone", staysWith(2, 0, 0), 0));
        edge(8, "STAYS of a HEAVY one, m 1: with none", () -> {
            due("with none", staysWith(2, 1, 0), 1);
            due("with one", staysWith(2, 1, 1), 0);
        });
        edge(8, "STAYS of a HEAVY one, m 2: with one", () -> {
            due("with one", staysWith(2, 2, 1), 1);
            due("with two", staysWith(2, 2, 2), 0);
        });
        edge(8, "STAYS of a HEAVY one, m 3: with two", () -> {
            due("with none", staysWith(2, 3, 0), 1);
            due("with two", staysWith(2, 3, 2), 1);
            due("with three", staysWith(2, 3, 3), 0);
            due("with nine", staysWith(2, 3, 9), 0);
        });
        edge(8, "STAYS of a HEAVY one, m 4 or more: never", () -> {
            due("m 4, with none", staysWith(2, 4, 0), 0);
            due("m 4, with three", staysWith(2, 4, 3), 0);
            due("m 30, with none", staysWith(2, 30, 0), 0);
        });
        edge(8, "STAYS of a SUNK one: as HEAVY", () -> {
            due("m 0", staysWith(6, 0, 0), 0);
            due("m 1, with none", staysWith(6, 1, 0), 1);
            due("m 1, with one", staysWith(6, 1, 1), 0);
            due("m 3, with two", staysWith(6, 3, 2), 1);
            due("m 3, with three", staysWith(6, 3, 3), 0);
            due("m 4, with none", staysWith(6, 4, 0), 0);
        });
        edge(8, "STAYS of a HEAVY one: THINGS in another WELL, below or out don't count", () -> {
            NineWells x = fresh(3);
            x.going(0, 1, 9);
            letNew(x, 0, 0, 0);
            x.days(1);
            x.thing(0, 0);
            letNew(x, 0, 0, 0);
            x.fish(2);
            letNew(x, 0, 0, 2);
            due("one alone in 0", x.ofThing(letNew(x, 2, 1, 0), 7), 1);
            due("one alone in 1", x.ofThing(letNew(x, 2, 1, 1), 7), 1);
            due("one with another in 2", x.ofThing(letNew(x, 2, 1, 2), 7), 0);
        });
        edge(8, "STAYS of a COLD one: MONTHS 11, 0, 1 (up to DAY 59, from DAY 330 to DAY 419), and so on", () -> {
            NineWells x = fresh(1);
            int cold = letNew(x, 3, 0, 0);
            int[] days = {0, 29, 30, 59, 60, 329, 330, 359, 360, 419, 420, 689, 690, 779, 780};
            int[] want = {1, 1, 1, 1, 0, 0, 1, 1, 1, 1, 0, 0, 1, 1, 0};
            for (int i = 0; i < days.length; i++) {
                goTo(x, days[i]);
                due("on DAY " + days[i], x.ofThing(cold, 7), want[i]);
            }
        });
        edge(8, "STAYS of a SUNK one: TODAY a multiple of 7, 0 too", () -> {
            NineWells x = fresh(1);
            int sunk = letNew(x, 6, 0, 0);
            int[] days = {0, 1, 6, 7, 8, 13, 14, 15, 700, 701};
            int[] want = {1, 0, 0, 1, 0, 0, 1, 0, 1, 0};
            for (int i = 0; i < days.length; i++) {
                goTo(x, days[i]);
                due("on DAY " + days[i], x.ofThing(sunk, 7), want[i]);
            }
        });
        edge(8, "STAYS of THING, LIGHT, CORK, PAIR: never", () -> {
            for (int kind : new int[] {0, 1, 4, 5}) {
                NineWells x = fresh(1);
                int thing = letNew(x, kind, 3, 0);
                for (int day : new int[] {0, 7, 30, 150, 330, 360}) {
                    goTo(x, day);
                    due("KIND " + kind + " on DAY " + day, x.ofThing(thing, 7), 0);
                }
            }
        });
        edge(8, "STAYS is 0 if it is in none", () -> {
            NineWells x = fresh(2);
            x.going(0, 1, 30);
            for (int kind : new int[] {2, 3, 6}) {
                int thing = x.thing(kind, 3);
                due("KIND " + kind + ", out at nobody's", x.ofThing(thing, 7), 0);
                x.let(thing, 0);
                due("KIND " + kind + ", in 0", x.ofThing(thing, 7), 1);
                x.fish(thing);
                due("KIND " + kind + ", out at 0", x.ofThing(thing, 7), 0);
            }
            for (int i = 0; i < 4; i++) letNew(x, 2, i, 0);
            x.days(1);
            due("HEAVY, m 1, below", x.ofThing(4, 2) * 10 + x.ofThing(4, 7), 10);
        });
    }

    private static void as() {
        int[] above = {-1, 0, 0, 0, 1, 0, 2};
        for (int kind = 0; kind <= 6; kind++) {
            int of = kind;
            edge(9, "one of KIND " + kind + " as one of each KIND", () -> {
                for (int as = 0; as <= 6; as++) {
                    NineWells x = new NineWells();
                    x.thing(of, 30 - of);
                    boolean isOf = of == as || above[of] == as || above[of] >= 0 && above[above[of]] == as;
                    due("as(0, " + as + ")", x.as(0, as), isOf ? 30 - of : KIND);
                    due("told(5)", x.told(5), isOf ? 0 : 1);
                }
            });
        }
        edge(9, "m of 0", () -> {
            NineWells x = new NineWells();
            x.thing(4, 0);
            due("as(0, 1)", x.as(0, 1), 0);
        });
        refused(9, "a THING as a LIGHT one", KIND, Edges::lived, x -> x.as(0, 1));
        refused(9, "a LIGHT one as a CORK, which is under it", KIND, Edges::lived, x -> x.as(1, 4));
        refused(9, "a HEAVY one as a SUNK one, which is under it", KIND, Edges::lived, x -> x.as(2, 6));
        refused(9, "a CORK as a HEAVY one", KIND, Edges::lived, x -> x.as(4, 2));
        refused(9, "a SUNK one as a PAIR", KIND, Edges::lived, x -> x.as(6, 5));
        beyond(9, "THING -1", x -> x.as(-1, 0));
        beyond(9, "the THING behind the last", x -> x.as(7, 0));
        beyond(9, "the least int for a THING", x -> x.as(MIN, 0));
        beyond(9, "the greatest int for a THING", x -> x.as(MAX, 0));
        beyond(9, "KIND -1, ahead of KIND", x -> x.as(0, -1));
        beyond(9, "KIND 7, ahead of KIND", x -> x.as(0, 7));
        beyond(9, "the least int for a KIND", x -> x.as(0, MIN));
        beyond(9, "the greatest int for a KIND", x -> x.as(0, MAX));
        onlyAsks(9, "as(4, 1)", 2, x -> x.as(4, 1));
    }

    private static void let() {
        edge(10, "from out at nobody's, into the first and the last WELL", () -> {
            NineWells x = fresh(9);
            x.thing(0, 0);
            x.thing(0, 0);
            due("let(0, 0)", x.let(0, 0), 1);
            due("let(1, 8)", x.let(1, 8), 1);
            due("ofThing(0, 3)", x.ofThing(0, 3) * 10 + x.ofThing(0, 2), 0);
            due("ofThing(1, 3)", x.ofThing(1, 3) * 10 + x.ofThing(1, 2), 80);
        });
        edge(10, "the last of ten THINGS", () -> {
            NineWells x = fresh(1);
            for (int t = 0; t < 10; t++) x.thing(0, 0);
            due("let(9, 0)", x.let(9, 0), 1);
            due("count(3)", x.count(3), 9);
        });
        edge(10, "from out at a WELL, into that one and another", () -> {
            NineWells x = fresh(2);
            letNew(x, 0, 0, 1);
            x.fish(0);
            due("let(0, 1)", x.let(0, 1), 1);
            x.fish(0);
            due("let(0, 0)", x.let(0, 0), 1);
            due("ofThing(0, 3)", x.ofThing(0, 3), 0);
        });
        edge(10, "what it SPENT stays", () -> {
            NineWells x = fresh(2);
            x.going(0, 1, 1);
            x.set(1, 0, 99);
            letNew(x, 0, 0, 0);
            x.days(2);
            x.fish(0);
            due("let(0, 0)", x.let(0, 0), 1);
            due("ofThing(0, 5)", x.ofThing(0, 5), 99);
        });
        edge(10, "to be let down takes no DAY, and nobody FISHES it out as it is", () -> {
            NineWells x = fresh(1);
            x.set(0, 1, 1);
            letNew(x, 0, 0, 0);
            due("count(0)", x.count(0), 0);
            x.days(1);
            due("ofThing(0, 2)", x.ofThing(0, 2), 0);
        });
        beyond(10, "THING -1", x -> x.let(-1, 0));
        beyond(10, "the THING behind the last", x -> x.let(7, 0));
        beyond(10, "the least int for a THING", x -> x.let(MIN, 0));
        beyond(10, "the greatest int for a THING", x -> x.let(MAX, 0));
        beyond(10, "WELL -1", x -> x.let(5, -1));
        beyond(10, "the WELL behind the last", x -> x.let(5, 5));
        beyond(10, "the least int for a WELL", x -> x.let(5, MIN));
        beyond(10, "the greatest int for a WELL", x -> x.let(5, MAX));
        refused(10, "one that is in a WELL", STATE, Edges::lived, x -> x.let(4, 0));
        refused(10, "one that is in that WELL", STATE, Edges::lived, x -> x.let(4, 4));
        refused(10, "one that is below", STATE, Edges::lived, x -> x.let(0, 0));
        refused(10, "WELL -1 ahead of STATE", BEYOND, Edges::lived, x -> x.let(4, -1));
        refused(10, "the WELL behind the last ahead of STATE", BEYOND, Edges::lived, x -> x.let(0, 5));
        refused(10, "WELL 0 of none", BEYOND, () -> { NineWells x = new NineWells(); x.thing(0, 0); return x; }, x -> x.let(0, 0));
    }

    private static void fish() {
        edge(11, "from the first and the last WELL: that WELL, and it is out there", () -> {
            NineWells x = fresh(9);
            letNew(x, 0, 0, 0);
            letNew(x, 0, 0, 8);
            due("fish(0)", x.fish(0), 0);
            due("fish(1)", x.fish(1), 8);
            due("ofThing(0, ..)", x.ofThing(0, 2) * 10 + x.ofThing(0, 3), 20);
            due("ofThing(1, ..)", x.ofThing(1, 2) * 10 + x.ofThing(1, 3), 28);
        });
        edge(11, "whoever sits there, and whatever TAKES gives", () -> {
            NineWells x = fresh(1);
            text(x, 1, "0");
            letNew(x, 0, 0, 0);
            due("fish(0), nobody sits there", x.fish(0), 0);
            x.set(0, 1, 1);
            x.let(0, 0);
            due("fish(0), somebody who takes nothing", x.fish(0), 0);
        });
        edge(11, "no TOLL for it", () -> {
            NineWells x = fresh(1);
            x.set(0, 0, 99);
            letNew(x, 0, 0, 0);
            x.fish(0);
            due("ofThing(0, 5)", x.ofThing(0, 5), 0);
        });
        edge(11, "the last of ten THINGS", () -> {
            NineWells x = fresh(1);
            for (int t = 0; t < 10; t++) letNew(x, 0, 0, 0);
            due("fish(9)", x.fish(9), 0);
            due("ofWell(0, 4)", x.ofWell(0, 4), 511);
        });
        beyond(11, "THING -1", x -> x.fish(-1));
        beyond(11, "the THING behind the last", x -> x.fish(7));
        beyond(11, "the least int for a THING", x -> x.fish(MIN));
        beyond(11, "the greatest int for a THING", x -> x.fish(MAX));
        refused(11, "one that is out at nobody's", STATE, Edges::lived, x -> x.fish(5));
        refused(11, "one that is out at a WELL", STATE, Edges::lived, x -> x.fish(6));
        refused(11, "one that is below", STATE, Edges::lived, x -> x.fish(0));
        refused(11, "THING 0 of none", BEYOND, NineWells::new, x -> x.fish(0));
    }

    public static void main(String[] args) {
        aNewObject();
        well();
        going();
        set();
        ofWell();
        goings();
        thing();
        ofThing();
        whatItLasts();
        whetherItStays();
        as();
        let();
        fish();
        end("WellsEdgesTest", 1, 11);
    }
}
