/** Promises 26 to 30, finds: each boundary that they, or the terms they use, name. */
public final class FindsEdgesTest extends Edges {

    private static void find() {
        edge(26, "FINDS are numbered from 0, the twelfth is the last", () -> {
            NineWells x = fresh(2);
            for (int i = 0; i <= 11; i++) due("find(0, 1, 1)", x.find(0, 1, 1), i);
            due("find(0, 1, 1)", x.find(0, 1, 1), FULL);
            due("count(4)", x.count(4), 12);
        });
        edge(26, "a DAY is 1 at least", () -> {
            NineWells x = fresh(2);
            x.going(0, 1, 1);
            due("find(0, 1, 1)", x.find(0, 1, 1), 0);
            due("agrees(0)", x.agrees(0), 1);
        });
        edge(26, "a DAY is 99 at most", () -> {
            NineWells x = fresh(1);
            x.going(0, 0, 1);
            due("find(0, 0, 99)", x.find(0, 0, 99), 0);
            due("agrees(0)", x.agrees(0), 1);
        });
        edge(26, "from and in the last WELL, the same one too", () -> {
            NineWells x = fresh(9);
            x.going(8, 8, 5);
            due("find(8, 8, 5)", x.find(8, 8, 5), 0);
            due("agrees(0)", x.agrees(0), 1);
        });
        edge(26, "one that isn't so, and one that was found already, are FINDS, too", () -> {
            NineWells x = fresh(2);
            due("find(0, 1, 9)", x.find(0, 1, 9), 0);
            due("find(0, 1, 9)", x.find(0, 1, 9), 1);
        });
        beyond(26, "from WELL -1", x -> x.find(-1, 0, 1));
        beyond(26, "from the WELL behind the last", x -> x.find(5, 0, 1));
        beyond(26, "from the least int", x -> x.find(MIN, 0, 1));
        beyond(26, "in WELL -1", x -> x.find(0, -1, 1));
        beyond(26, "in the WELL behind the last", x -> x.find(0, 5, 1));
        beyond(26, "in the greatest int", x -> x.find(0, MAX, 1));
        beyond(26, "DAY 0", x -> x.find(0, 0, 0));
        beyond(26, "DAY 100", x -> x.find(0, 0, 100));
        beyond(26, "the least int for a DAY", x -> x.find(0, 0, MIN));
        beyond(26, "the greatest int for a DAY", x -> x.find(0, 0, MAX));
        refused(26, "a thirteenth FIND", FULL, Edges::brim, x -> x.find(0, 0, 1));
        refused(26, "from WELL 9 ahead of FULL", BEYOND, Edges::brim, x -> x.find(9, 0, 1));
        refused(26, "in WELL 9 ahead of FULL", BEYOND, Edges::brim, x -> x.find(0, 9, 1));
        refused(26, "DAY 0 ahead of FULL", BEYOND, Edges::brim, x -> x.find(0, 0, 0));
        refused(26, "DAY 100 ahead of FULL", BEYOND, Edges::brim, x -> x.find(0, 0, 100));
    }

    private static void forget() {
        edge(27, "of none: 0", () -> {
            NineWells x = fresh(1);
            due("forget()", x.forget(), 0);
            due("count(4)", x.count(4), 0);
        });
        edge(27, "of twelve: 12, and then none", () -> {
            NineWells x = brim();
            due("forget()", x.forget(), 12);
            due("forget()", x.forget(), 0);
            due("agrees(0)", x.agrees(0), BEYOND);
        });
        edge(27, "then it isn't FULL, and numbers are from 0 again", () -> {
            NineWells x = brim();
            x.forget();
            for (int i = 0; i < 12; i++) due("find(0, 0, 1)", x.find(0, 0, 1), i);
            due("find(0, 0, 1)", x.find(0, 0, 1), FULL);
        });
        edge(27, "what was forgotten rules out no BELOWS", () -> {
            NineWells x = fresh(2);
            x.find(1, 1, 1);
            due("belows(0, 5, 0)", x.belows(0, 5, 0), 0);
            x.forget();
            due("belows(0, 5, 0)", x.belows(0, 5, 0), 10);
        });
        edge(27, "all else stays", () -> {
            NineWells x = lived(), y = lived();
            due("forget()", x.forget(), 3);
            x.find(0, 1, 3);
            x.find(1, 2, 1);
            x.find(3, 3, 30);
            due("forget()", whatIsAsked(x), whatIsAsked(y));
        });
    }

    private static int agreement(NineWells x, int from, int in, int day) {
        x.forget();
        return x.agrees(x.find(from, in, day));
    }

    private static void agrees() {
        edge(28, "on the DAY on which it comes there, not on the ones beside it", () -> {
            NineWells x = fresh(3);
            x.going(0, 1, 30);
            x.going(1, 2, 30);
            int[] days = {1, 29, 30, 31, 59, 60, 61, 99}, in1 = {0, 0, 1, 0, 0, 0, 0, 0}, in2 = {0, 0, 0, 0, 0, 1, 0, 0};
            for (int i = 0; i < days.length; i++) {
                due("in 1 on DAY " + days[i], agreement(x, 0, 1, days[i]), in1[i]);
                due("in 2 on DAY " + days[i], agreement(x, 0, 2, days[i]), in2[i]);
                due("in 0 on DAY " + days[i], agreement(x, 0, 0, days[i]), 0);
            }
        });
        edge(28, "DAY 99, by GOINGS of 1, 2, 3 DAYS to itself", () -> {
            NineWells x = fresh(1);
            int[] want = {1, 0, 1};
            for (int days = 1; days <= 3; days++) {
                x.going(0, 0, days);
                due("of " + days, agreement(x, 0, 0, 99), want[days - 1]);
            }
        });
        edge(28, "a WALK from a WELL that leads to none is nowhere on DAY 1", () -> {
            NineWells x = fresh(1);
            due("in 0 on DAY 1", agreement(x, 0, 0, 1), 0);
        });
        edge(28, "as GOINGS are now", () -> {
            NineWells x = fresh(2);
            x.find(0, 1, 4);
            due("agrees(0)", x.agrees(0), 0);
            x.going(0, 1, 4);
            due("agrees(0)", x.agrees(0), 1);
            x.going(0, 1, 5);
            due("agrees(0)", x.agrees(0), 0);
        });
        edge(28, "KINDS, TEXTS and DAYS that go by don't matter to a WALK", () -> {
            NineWells x = fresh(2);
            x.going(0, 1, 4);
            x.find(0, 1, 4);
            text(x, 0, "30");
            x.days(50);
            due("agrees(0)", x.agrees(0), 1);
        });
        edge(28, "the last of twelve", () -> {
            NineWells x = brim();
            due("agrees(11)", x.agrees(11), 0);
            x.going(2, 4, 12);
            due("agrees(11)", x.agrees(11), 1);
        });
        beyond(28, "FIND -1", x -> x.agrees(-1));
        beyond(28, "the FIND behind the last", x -> x.agrees(3));
        beyond(28, "the least int for a FIND", x -> x.agrees(MIN));
        beyond(28, "the greatest int for a FIND", x -> x.agrees(MAX));
        refused(28, "FIND 12 of twelve", BEYOND, Edges::brim, x -> x.agrees(12));
        refused(28, "FIND 0 of none", BEYOND, () -> fresh(9), x -> x.agrees(0));
        onlyAsks(28, "agrees(2)", 1, x -> x.agrees(2));
    }

    private static void belows() {
        edge(29, "d is 1 at least, 5 at most: without FINDS all, of 9 WELLS and of 1", () -> {
            for (int d = 1; d <= 5; d++) {
                due("belows(8, " + d + ", 0) of nine", fresh(9).belows(8, d, 0), 9 * d);
                due("belows(0, " + d + ", 0) of one", fresh(1).belows(0, d, 0), d);
            }
        });
        edge(29, "FIRST: by where it leads, then by DAYS", () -> {
            NineWells x = fresh(9);
            due("belows(4, 5, 1), no FINDS", x.belows(4, 5, 1), 1);
            x.find(4, 4, 4);
            due("belows(4, 5, 1), to itself of 1, 2, 4 DAYS", x.belows(4, 5, 1), 41);
            x.going(2, 4, 1);
            due("belows(4, 5, 1), to 2 of 1 or 3, too", x.belows(4, 5, 1), 21);
            x.going(2, 4, 2);
            due("belows(4, 5, 1), to 2 of 2, too", x.belows(4, 5, 1), 22);
        });
        edge(29, "FIRST of the last WELL and 5 DAYS: 85; with 4 DAYS there is none: -1", () -> {
            NineWells x = fresh(9);
            x.find(0, 8, 5);
            due("belows(0, 5, 0)", x.belows(0, 5, 0), 1);
            due("belows(0, 5, 1)", x.belows(0, 5, 1), 85);
            due("belows(0, 5, 2)", x.belows(0, 5, 2), 1);
            due("belows(0, 4, 0)", x.belows(0, 4, 0), 0);
            due("belows(0, 4, 1)", x.belows(0, 4, 1), -1);
        });
        edge(29, "SURE is 1 if none agrees", () -> {
            NineWells x = fresh(9);
            x.find(0, 8, 5);
            due("belows(0, 4, 2)", x.belows(0, 4, 2), 1);
        });
        edge(29, "SURE is 1 if there is one", () -> {
            NineWells x = fresh(2);
            x.find(0, 1, 5);
            due("belows(0, 5, 0)", x.belows(0, 5, 0), 1);
            due("belows(0, 5, 2)", x.belows(0, 5, 2), 1);
        });
        edge(29, "SURE is 1 if there are several, all to the same WELL", () -> {
            NineWells x = fresh(3);
            x.find(1, 1, 4);
            due("belows(1, 5, 0)", x.belows(1, 5, 0), 3);
            due("belows(1, 5, 2)", x.belows(1, 5, 2), 1);
            due("belows(0, 5, 2) of one WELL alone", fresh(1).belows(0, 5, 2), 1);
        });
        edge(29, "SURE is 0 if two lead to unlike WELLS", () -> {
            NineWells x = fresh(3);
            x.going(1, 2, 2);
            x.find(0, 2, 5);
            due("belows(0, 5, 0)", x.belows(0, 5, 0), 2);
            due("belows(0, 5, 2)", x.belows(0, 5, 2), 0);
            due("belows(0, 4, 2), one of them is too long", x.belows(0, 4, 2), 1);
        });
        edge(29, "by which all FINDS are so, the twelfth too", () -> {
            NineWells x = fresh(2);
            for (int i = 0; i < 11; i++) x.find(0, 0, 12);
            due("belows(0, 5, 0), 1, 2, 3, 4 DAYS", x.belows(0, 5, 0), 4);
            x.find(0, 0, 9);
            due("belows(0, 5, 0), 1, 3 DAYS", x.belows(0, 5, 0), 2);
            due("belows(0, 5, 1)", x.belows(0, 5, 1), 1);
        });
        edge(29, "FINDS on DAYS 1 and 99", () -> {
            NineWells x = fresh(2);
            x.find(0, 0, 99);
            due("belows(0, 5, 0), 1 and 3 DAYS", x.belows(0, 5, 0), 2);
            x.find(0, 0, 1);
            due("belows(0, 5, 0), 1 DAY", x.belows(0, 5, 0), 1);
        });
        edge(29, "a FIND from another WELL that isn't so by it rules out all, or none if it is so", () -> {
            NineWells x = fresh(3);
            x.going(1, 2, 5);
            x.find(1, 2, 5);
            due("belows(0, 5, 0)", x.belows(0, 5, 0), 15);
            x.find(1, 2, 4);
            due("belows(0, 5, 0)", x.belows(0, 5, 0), 0);
        });
        edge(29, "a FIND from another WELL whose WALK comes by", () -> {
            NineWells x = fresh(2);
            x.going(1, 0, 3);
            x.find(1, 0, 5);
            due("belows(0, 5, 0)", x.belows(0, 5, 0), 2);
            due("belows(0, 5, 1)", x.belows(0, 5, 1), 1);
        });
        edge(29, "of that WELL, whatever its GOING is, of more than 5 DAYS or to none", () -> {
            NineWells x = fresh(2);
            x.find(0, 1, 3);
            x.going(0, 0, 30);
            due("belows(0, 5, 0)", x.belows(0, 5, 0), 1);
            x.going(0, -1, 30);
            due("belows(0, 5, 0)", x.belows(0, 5, 0), 1);
            due("ofWell(0, 0)", x.ofWell(0, 0), -1);
        });
        beyond(29, "WELL -1", x -> x.belows(-1, 1, 0));
        beyond(29, "the WELL behind the last", x -> x.belows(5, 1, 0));
        beyond(29, "the least int for a WELL", x -> x.belows(MIN, 1, 0));
        beyond(29, "d 0", x -> x.belows(0, 0, 0));
        beyond(29, "d 6", x -> x.belows(0, 6, 0));
        beyond(29, "the least int for d", x -> x.belows(0, MIN, 0));
        beyond(29, "the greatest int for d", x -> x.belows(0, MAX, 0));
        beyond(29, "what -1", x -> x.belows(0, 1, -1));
        beyond(29, "what 3", x -> x.belows(0, 1, 3));
        beyond(29, "the greatest int for what", x -> x.belows(0, 1, MAX));
        refused(29, "WELL 9 of nine", BEYOND, Edges::brim, x -> x.belows(9, 5, 0));
        onlyAsks(29, "belows(4, 5, 0)", 25, x -> x.belows(4, 5, 0));
        onlyAsks(29, "belows(0, 5, 1)", 13, x -> x.belows(0, 5, 1));
        onlyAsks(29, "belows(0, 5, 2)", 1, x -> x.belows(0, 5, 2));
    }

    private static void cork() {
        edge(30, "n is 1 at least", () -> {
            due("cork(0, 1, 1, 1) of one WELL: in 0", fresh(1).cork(0, 1, 1, 1), 1);
            due("cork(0, 2, 1, 1) of one WELL: in 0, or below", fresh(1).cork(0, 2, 1, 1), 2);
        });
        edge(30, "n is 99 at most", () -> {
            due("cork(0, 1, 99, 1) of one WELL: in 0", fresh(1).cork(0, 1, 99, 1), 1);
            due("cork(0, 2, 99, 1) of one WELL: in 0, or below", fresh(1).cork(0, 2, 99, 1), 2);
        });
        edge(30, "d is 1 at least, 5 at most", () -> {
            NineWells x = fresh(1);
            for (int d = 1; d <= 5; d++) due("cork(0, " + d + ", 12, 1)", x.cork(0, d, 12, 1), d < 5 ? 1 : 2);
        });
        edge(30, "most unlike places: all nine WELLS, and below", () -> {
            due("cork(8, 5, 1, 1)", fresh(9).cork(8, 5, 1, 1), 10);
            due("cork(8, 5, 1, 0)", fresh(9).cork(8, 5, 1, 0), 8);
            due("cork(8, 1, 1, 1), none below", fresh(9).cork(8, 1, 1, 1), 9);
        });
        edge(30, "below and nowhere are one place", () -> {
            NineWells x = fresh(2);
            due("cork(0, 2, 2, 1): 0, 1, nowhere", x.cork(0, 2, 2, 1), 3);
            due("cork(0, 2, 3, 1): 0, below or nowhere", x.cork(0, 2, 3, 1), 2);
        });
        edge(30, "of several the least", () -> {
            NineWells x = fresh(3);
            x.going(0, 2, 1);
            x.going(1, 2, 1);
            due("cork(2, 1, 2, 0)", x.cork(2, 1, 2, 0), 0);
            due("cork(2, 1, 2, 1)", x.cork(2, 1, 2, 1), 3);
            x.going(0, -1, 1);
            due("cork(2, 1, 2, 0), 0 leads to none", x.cork(2, 1, 2, 0), 1);
            due("cork(2, 1, 2, 1), 0 leads to none", x.cork(2, 1, 2, 1), 3);
        });
        edge(30, "one BELOW alone: one place, WELL 0", () -> {
            NineWells x = fresh(9);
            x.find(5, 8, 5);
            due("cork(5, 5, 5, 0)", x.cork(5, 5, 5, 0), 0);
            due("cork(5, 5, 5, 1)", x.cork(5, 5, 5, 1), 1);
        });
        edge(30, "no BELOWS: no places, WELL 0", () -> {
            NineWells x = fresh(9);
            x.find(5, 8, 5);
            due("cork(5, 4, 5, 0)", x.cork(5, 4, 5, 0), 0);
            due("cork(5, 4, 5, 1)", x.cork(5, 4, 5, 1), 0);
        });
        edge(30, "by these BELOWS alone", () -> {
            NineWells x = fresh(2);
            due("cork(0, 5, 1, 1): 0, 1, below", x.cork(0, 5, 1, 1), 3);
            x.find(0, 0, 2);
            due("cork(0, 5, 1, 1): 0, below", x.cork(0, 5, 1, 1), 2);
            x.find(0, 0, 1);
            due("cork(0, 5, 1, 1): 0", x.cork(0, 5, 1, 1), 1);
        });
        beyond(30, "WELL -1", x -> x.cork(-1, 1, 1, 0));
        beyond(30, "the WELL behind the last", x -> x.cork(5, 1, 1, 0));
        beyond(30, "the greatest int for a WELL", x -> x.cork(MAX, 1, 1, 0));
        beyond(30, "d 0", x -> x.cork(0, 0, 1, 0));
        beyond(30, "d 6", x -> x.cork(0, 6, 1, 0));
        beyond(30, "the greatest int for d", x -> x.cork(0, MAX, 1, 0));
        beyond(30, "n 0", x -> x.cork(0, 1, 0, 0));
        beyond(30, "n 100", x -> x.cork(0, 1, 100, 0));
        beyond(30, "the least int for n", x -> x.cork(0, 1, MIN, 0));
        beyond(30, "the greatest int for n", x -> x.cork(0, 1, MAX, 0));
        beyond(30, "what -1", x -> x.cork(0, 1, 1, -1));
        beyond(30, "what 2", x -> x.cork(0, 1, 1, 2));
        beyond(30, "the least int for what", x -> x.cork(0, 1, 1, MIN));
        refused(30, "WELL 9 of nine", BEYOND, Edges::brim, x -> x.cork(9, 5, 1, 0));
        onlyAsks(30, "cork(4, 5, 1, 0)", 4, x -> x.cork(4, 5, 1, 0));
        onlyAsks(30, "cork(4, 5, 1, 1)", 6, x -> x.cork(4, 5, 1, 1));
    }

    public static void main(String[] args) {
        find();
        forget();
        agrees();
        belows();
        cork();
        end("FindsEdgesTest", 26, 30);
    }
}
