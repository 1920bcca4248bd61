/** Promises 12 to 16, texts and days: each boundary that they, or the terms they use, name. */
public final class TextsEdgesTest extends Edges {
    private static final String DIGITS = "0123456789";
    private static final String SIGNS = "|&<=>+-*/%";
    private static final String NOT_COMPARING = "|&+-*/%";

    private static void feed() {
        edge(12, "n is 1 at least", () -> {
            NineWells x = new NineWells();
            due("feed('7', 1)", x.feed('7', 1), 1);
            due("text(1)", x.text(1), 1);
            due("law(1, ..)", x.law(1, 0, 0, 0, 0), 7);
        });
        edge(12, "n is 8 at most, the lowest byte first", () -> {
            NineWells x = new NineWells();
            due("feed(\"9999-123\", 8)", x.feed(0x3332312D39393939L, 8), 8);
            due("text(1)", x.text(1), 1);
            due("law(1, ..)", x.law(1, 0, 0, 0, 0), 9876);
        });
        edge(12, "bytes above the n lowest don't come", () -> {
            NineWells x = new NineWells();
            due("feed(.., 2)", x.feed(0xFFFFFFFFFFFF3231L, 2), 2);
            due("text(1)", x.text(1), 1);
            due("law(1, ..)", x.law(1, 0, 0, 0, 0), 12);
        });
        edge(12, "bytes are 0 to 255: none is taken for one with 7 bits", () -> {
            NineWells x = new NineWells();
            due("feed(0xB1, 1)", x.feed(0xB1, 1), 1);
            due("text(1)", x.text(1), -10);
            due("feed(0x131, 2)", x.feed(0x131, 2), 2);
            due("text(1)", x.text(1), -11);
        });
        edge(12, "how many there are: from 1 to 50", () -> {
            NineWells x = new NineWells();
            for (int i = 1; i <= 50; i++) due("feed('1', 1)", x.feed('1', 1), i);
            due("feed('1', 1)", x.feed('1', 1), FULL);
            due("count(5)", x.count(5), 50);
        });
        edge(12, "eight come where 42 are, not where 43 are", () -> {
            NineWells x = new NineWells();
            write(x, "1".repeat(42));
            due("feed(.., 8) of 42", x.feed(0, 8), 50);
            x.text(0);
            write(x, "1".repeat(43));
            due("feed(.., 8) of 43", x.feed(0, 8), FULL);
            due("count(5)", x.count(5), 43);
            due("feed(.., 7) of 43", x.feed(0, 7), 50);
        });
        edge(12, "THE TAPE takes 50 again once it was read", () -> {
            NineWells x = new NineWells();
            write(x, "1".repeat(50));
            x.text(0);
            due("feed(.., 8)", x.feed(0, 8), 8);
        });
        beyond(12, "n 0", x -> x.feed('1', 0));
        beyond(12, "n 9", x -> x.feed('1', 9));
        beyond(12, "n -1", x -> x.feed('1', -1));
        beyond(12, "the least int for n", x -> x.feed('1', MIN));
        beyond(12, "the greatest int for n", x -> x.feed('1', MAX));
        refused(12, "a 51st byte", FULL, Edges::brim, x -> x.feed('1', 1));
        refused(12, "eight more than 50", FULL, Edges::brim, x -> x.feed(-1L, 8));
        refused(12, "three where two have room", FULL, () -> { NineWells x = lived(); write(x, "1+1+1+".repeat(7) + "7+"); return x; }, x -> x.feed(0x313131, 3));
        refused(12, "n 0 ahead of FULL", BEYOND, Edges::brim, x -> x.feed('1', 0));
        refused(12, "n 9 ahead of FULL", BEYOND, Edges::brim, x -> x.feed('1', 9));
    }

    /** Each of the 256 bytes behind these: with some it is a TEXT, with some it ends too early, with all others it goes on no more. */
    private static void behind(String ahead, int use, String whole, String early) {
        edge(13, "the bytes that go on behind \"" + ahead + "\", USE " + use, () -> {
            NineWells x = new NineWells();
            for (int b = 0; b <= 255; b++) {
                if (b % 64 == 0) x = new NineWells();
                int want = whole.indexOf(b) >= 0 ? 1 : -10 - ahead.length() - (early.indexOf(b) >= 0 ? 1 : 0);
                due("text(" + use + ") of it and byte " + b, text(x, use, ahead + (char) b), want);
                due("count(5)", x.count(5), 0);
            }
        });
    }

    private static void bytesThatGoOn() {
        for (int use = 0; use <= 1; use++) {
            String names = use == 0 ? "wktm" : "wkts";
            String units = DIGITS + names;
            for (String ahead : new String[] {"", "1|", "1&", "1<", "1=", "1>", "1+", "1-", "1*", "1/", "1%", "!", "!!!!", "!!!!!1+", "!1&!", "(((((1)))))*"}) behind(ahead, use, units, "!(");
            for (String ahead : new String[] {"!!!!!", "1+!!!!!"}) behind(ahead, use, units, "");
            for (String ahead : new String[] {"(", "((((", "!(", "!!!(", "(!", "(1+", "1<(", "(1<", "(((((1)+", "((((1)+", "((((!1|"}) behind(ahead, use, "", units + "!(");
            for (String ahead : new String[] {"(((((", "!((((", "!!!!(", "(((!(", "((((!", "(!(!(", "(((((1+", "(((((1<", "((((!1+!"}) behind(ahead, use, "", units);
            for (String ahead : new String[] {"1", "123", "000", "w+1", "!1", "1<2&3", "1<2|3", "1=2&3", "1>2|3"}) behind(ahead, use, DIGITS, SIGNS);
            for (String ahead : new String[] {"1234", "0000", "w", "k", "t", names.substring(3), "(1)", "!w", "!(1)", "((1))", "!!!!!w", "1<2&w", "(1<2)", "w|(1<2)"}) behind(ahead, use, "", SIGNS);
            for (String ahead : new String[] {"1<2", "1=2", "1>2", "1<w+3", "1+2<3", "1<(2)+3", "1<2*3"}) behind(ahead, use, DIGITS, NOT_COMPARING);
            for (String ahead : new String[] {"1<w", "1<1234", "1=(2)", "1<(2<3)", "w>!w", "1|2<(3)", "0&1=w"}) behind(ahead, use, "", NOT_COMPARING);
            for (String ahead : new String[] {"(1", "1<(2", "!(1", "(1<2&3", "(1)+(2"}) behind(ahead, use, ")", DIGITS + SIGNS);
            for (String ahead : new String[] {"((1", "(((((1"}) behind(ahead, use, "", ")" + DIGITS + SIGNS);
            for (String ahead : new String[] {"(1<2", "1<(2<3"}) behind(ahead, use, ")", DIGITS + NOT_COMPARING);
            for (String ahead : new String[] {"(w", "(1234", "((1)", "!((1)"}) behind(ahead, use, ")", SIGNS);
        }
    }

    private static void text() {
        edge(13, "an empty TAPE ends too early: FAULT 0", () -> {
            due("text(0)", new NineWells().text(0), -10);
            due("text(1)", new NineWells().text(1), -10);
        });
        edge(13, "the first byte with which no TEXT goes on, whatever is behind it", () -> {
            NineWells x = new NineWells();
            due("text(0) of 1 2 3", text(x, 0, "1 2 3"), -11);
            due("text(0) of )((((((((", text(x, 0, ")(((((((("), -10);
            due("text(0) of 12345+", text(x, 0, "12345+"), -14);
            due("text(0) of 1<2<3<4", text(x, 0, "1<2<3<4"), -13);
        });
        edge(13, "it ends too early: how many bytes there are", () -> {
            NineWells x = new NineWells();
            due("text(0) of (1+2", text(x, 0, "(1+2"), -14);
            due("text(0) of (((((1))))", text(x, 0, "(((((1))))"), -20);
            due("text(0) of 1+2*", text(x, 0, "1+2*"), -14);
        });
        edge(13, "a NUMBER is of 4 digits at most, of 1 at least", () -> {
            NineWells x = new NineWells();
            due("text(1) of 9999", text(x, 1, "9999"), 1);
            due("law", x.law(1, 0, 0, 0, 0), 9999);
            due("text(1) of 0000", text(x, 1, "0000"), 1);
            due("text(1) of 99999", text(x, 1, "99999"), -14);
            due("text(1) of 00001", text(x, 1, "00001"), -14);
            due("text(1) of 1+", text(x, 1, "1+"), -12);
        });
        edge(13, "5 of ! and ( are open at most", () -> {
            NineWells x = new NineWells();
            for (String s : new String[] {"!!!!!1", "(((((1)))))", "!(!(!1))", "(!(!(1)))", "!!(((1)))", "((((!1))))"}) due("text(0) of " + s, text(x, 0, s), 1);
            for (String s : new String[] {"!!!!!!1", "((((((1))))))", "!(!(!(1)))", "(!(!(!1)))", "!!((((1))))", "(((((!1)))))", "!(((((1)))))"}) due("text(0) of " + s, text(x, 0, s), -15);
        });
        edge(13, "! is open up to its Q's end, ( up to its )", () -> {
            NineWells x = new NineWells();
            for (String s : new String[] {"!!!!!1+!!!!!1", "(((((1)))))+(((((1)))))", "!(((1)))+!((((1))))", "((((!1+!1))))", "((((!1+(1)+!1))))", "(((((1)+(1)))))", "!!!!!1&!1&!1&!1"}) due("text(0) of " + s, text(x, 0, s), 1);
            due("text(0) of (((((1+(1))))))", text(x, 0, "(((((1+(1))))))"), -17);
            due("text(0) of ((((!1+!!1))))", text(x, 0, "((((!1+!!1))))"), -18);
        });
        edge(13, "a TEXT of 50 bytes", () -> {
            NineWells x = new NineWells();
            String fifty = "10" + "+1".repeat(24);
            due("text(1)", text(x, 1, fifty), 1);
            due("law", x.law(1, 0, 0, 0, 0), 34);
            due("text(1), the last byte faulty", text(x, 1, fifty.substring(0, 49) + ")"), -59);
            due("text(1), it ends too early", text(x, 1, "1" + "+1".repeat(24) + "+"), -60);
            due("law, the one ahead", x.law(1, 0, 0, 0, 0), 34);
        });
        edge(13, "fifty bytes, each of them a NUMBER, a NAME or a sign", () -> {
            NineWells x = new NineWells();
            due("text(1)", text(x, 1, "!0" + "+1".repeat(24)), 1);
            due("law", x.law(1, 0, 0, 0, 0), 25);
            due("text(0)", text(x, 0, "!w" + "-k".repeat(24)), 1);
            due("law", x.law(0, 0, -1, 0, 0), 25);
        });
        edge(13, "fifty bytes of each depth of signs", () -> {
            NineWells x = new NineWells();
            due("text(1)", text(x, 1, "1" + "*1".repeat(24)), 1);
            due("law", x.law(1, 0, 0, 0, 0), 1);
            due("text(1)", text(x, 1, "w" + "-k".repeat(24)), 1);
            due("law", x.law(1, 100, 2, 0, 0), 52);
            due("text(1)", text(x, 1, "0|0&0<0+0*(0|0&0<0+0*(0|0&0<0+0*(0|0&0<1+0*9)))"), 1);
            due("law", x.law(1, 0, 0, 0, 0), 0);
            due("text(1)", text(x, 1, "0|1&0<1+0*(0|0&0<0+0*(0|0&0<0+0*(0|0&0<0+0*(1))))"), 1);
            due("law", x.law(1, 0, 0, 0, 0), 1);
        });
        edge(13, "m is a NAME of SLOWS alone, s of TAKES alone", () -> {
            NineWells x = new NineWells();
            due("text(0) of m", text(x, 0, "m"), 1);
            due("text(0) of s", text(x, 0, "s"), -10);
            due("text(1) of s", text(x, 1, "s"), 1);
            due("text(1) of 1+m", text(x, 1, "1+m"), -12);
        });
        edge(13, "it is in place of the one ahead; the other USE's stays", () -> {
            NineWells x = new NineWells();
            text(x, 0, "1");
            text(x, 1, "2");
            due("text(0)", text(x, 0, "3"), 1);
            due("law(0, ..)", x.law(0, 0, 0, 0, 0), 3);
            due("law(1, ..)", x.law(1, 0, 0, 0, 0), 2);
            due("text(1)", text(x, 1, "4"), 1);
            due("law(0, ..)", x.law(0, 0, 0, 0, 0), 3);
            due("law(1, ..)", x.law(1, 0, 0, 0, 0), 4);
        });
        edge(13, "THE TAPE is empty then", () -> {
            NineWells x = new NineWells();
            due("text(0)", text(x, 0, "3"), 1);
            due("count(5)", x.count(5), 0);
            due("text(0)", x.text(0), -10);
            due("law(0, ..)", x.law(0, 0, 0, 0, 0), 3);
        });
        edge(13, "with a FAULT THE TAPE is empty, too; no ERROR; all else stays", () -> {
            for (int use = 0; use <= 1; use++) {
                NineWells x = lived(), y = lived();
                due("feed(' ', 1)", x.feed(' ', 1), 5);
                due("text(" + use + ")", x.text(use), -14);
                due("count(5)", x.count(5), 0);
                for (int k = 1; k <= 5; k++) due("told(" + k + ")", x.told(k), y.told(k));
                write(x, "w*7+");
                due("text(" + use + ") with a FAULT", whatIsAsked(x), whatIsAsked(y));
            }
        });
        beyond(13, "USE -1 (THE TAPE stays)", x -> x.text(-1));
        beyond(13, "USE 2 (THE TAPE stays)", x -> x.text(2));
        beyond(13, "the least int for a USE", x -> x.text(MIN));
        beyond(13, "the greatest int for a USE", x -> x.text(MAX));
        refused(13, "USE 2 with a whole TEXT of 50 bytes", BEYOND, Edges::brim, x -> x.text(2));
        refused(13, "USE 2 with an empty TAPE", BEYOND, NineWells::new, x -> x.text(2));
    }

    private static int worth(String s, int w, int k) {
        NineWells x = new NineWells();
        return text(x, 1, s) == 1 ? x.law(1, w, k, 0, 0) : MAX - 12345;
    }

    private static void worths(String sentence, Object... rows) {
        edge(14, sentence, () -> {
            for (int i = 0; i < rows.length; i += 4) {
                String s = (String) rows[i];
                due(s + " with w " + rows[i + 1] + ", k " + rows[i + 2], worth(s, (Integer) rows[i + 1], (Integer) rows[i + 2]), (Integer) rows[i + 3]);
            }
        });
    }

    private static void law() {
        worths("+ - * wrap", "w+k", MAX, 1, MIN, "w+k", MIN, -1, MAX, "w-k", MIN, 1, MAX, "w-k", MAX, -1, MIN, "w-k", 0, MIN, MIN,
            "w*k", 65536, 65536, 0, "w*k", MIN, -1, MIN, "w*k", MAX, MAX, 1, "w*k", 65536, 32768, MIN, "9999*9999*9999", 0, 0, 9999 * 9999 * 9999);
        worths("/ is cut", "w/k", 7, 2, 3, "w/k", -7, 2, -3, "w/k", 7, -2, -3, "w/k", -7, -2, 3, "w/k", -1, 2, 0, "w/k", 1, 2, 0, "w/k", MIN, 1, MIN, "w/k", MAX, MIN, 0, "w/k", MIN, MAX, -1);
        worths("/ of the least int by -1 wraps", "w/k", MIN, -1, MIN);
        worths("% is the rest that / leaves", "w%k", 7, 2, 1, "w%k", -7, 2, -1, "w%k", 7, -2, 1, "w%k", -7, -2, -1, "w%k", 6, 2, 0, "w%k", MIN, MAX, -1, "w%k", MAX, MIN, MAX);
        worths("% of the least int by -1 is 0", "w%k", MIN, -1, 0);
        worths("/ by 0 is 0", "w/k", 7, 0, 0, "w/k", 0, 0, 0, "w/k", MIN, 0, 0, "5/0", 0, 0, 0, "5/(3-3)+2", 0, 0, 2);
        worths("% by 0 is 0", "w%k", 7, 0, 0, "w%k", 0, 0, 0, "w%k", MIN, 0, 0, "5%0", 0, 0, 0, "5%(3-3)+2", 0, 0, 2);
        worths("< is 1 or 0", "w<k", 1, 2, 1, "w<k", 2, 2, 0, "w<k", 3, 2, 0, "w<k", MIN, MAX, 1, "w<k", MAX, MIN, 0, "w<k", -1, 0, 1);
        worths("= is 1 or 0", "w=k", 1, 2, 0, "w=k", 2, 2, 1, "w=k", 3, 2, 0, "w=k", MIN, MIN, 1, "w=k", MIN, MAX, 0, "w=k", 0, 65536, 0);
        worths("> is 1 or 0", "w>k", 1, 2, 0, "w>k", 2, 2, 0, "w>k", 3, 2, 1, "w>k", MIN, MAX, 0, "w>k", MAX, MIN, 1, "w>k", 0, -1, 1);
        worths("| is 1 or 0, what is not 0 being true", "w|k", 0, 0, 0, "w|k", 2, 0, 1, "w|k", 0, -4, 1, "w|k", 2, 4, 1, "w|k", MIN, 0, 1);
        worths("& is 1 or 0, what is not 0 being true", "w&k", 0, 0, 0, "w&k", 2, 0, 0, "w&k", 0, -4, 0, "w&k", 2, 4, 1, "w&k", MIN, MAX, 1);
        worths("! is 1 or 0", "!w", 0, 0, 1, "!w", 1, 0, 0, "!w", 2, 0, 0, "!w", -1, 0, 0, "!w", MIN, 0, 0, "!!w", 7, 0, 1, "!!w", 0, 0, 0, "!!!!!w", 9, 0, 0);
        worths("all is worked out", "0&1/0", 0, 0, 0, "1|1%0", 0, 0, 1, "0&w/k|3", 5, 0, 1);
        worths("what binds more", "1|0&0", 0, 0, 1, "0&0|1", 0, 0, 1, "1&2<1", 0, 0, 0, "1<2&3", 0, 0, 1, "2<1+2", 0, 0, 1, "1+1=2", 0, 0, 1, "2+3*4", 0, 0, 14, "2*3+4", 0, 0, 10, "!0+1", 0, 0, 2, "!1*3", 0, 0, 0, "!0=0", 0, 0, 0);
        worths("from the left", "9-3-2", 0, 0, 4, "9-3+2", 0, 0, 8, "100/5/2", 0, 0, 10, "100/5*2", 0, 0, 40, "100%7*3", 0, 0, 6, "7*5%4", 0, 0, 3, "1-1-1-1", 0, 0, -2);
        worths("in ( )", "9-(3-2)", 0, 0, 8, "100/(5*2)", 0, 0, 10, "(2+3)*4", 0, 0, 20, "(1|0)&0", 0, 0, 0, "(1<2)<2", 0, 0, 1, "1<(2<3)", 0, 0, 0, "!(1&0)", 0, 0, 1, "(((((w)))))", -3, 0, -3);
        edge(14, "the NAMES in order", () -> {
            NineWells x = new NineWells();
            String[] slows = {"w", "k", "t", "m"}, takes = {"w", "k", "t", "s"};
            for (int i = 0; i < 4; i++) {
                text(x, 0, slows[i]);
                due("law(0, ..) of " + slows[i], x.law(0, 11, 12, 13, 14), 11 + i);
                text(x, 1, takes[i]);
                due("law(1, ..) of " + takes[i], x.law(1, MIN, MIN + 1, MIN + 2, MIN + 3), MIN + i);
            }
        });
        edge(14, "SLOWS is held within 0 to 30", () -> {
            NineWells x = new NineWells();
            text(x, 0, "w");
            int[] in = {MIN, -1, 0, 1, 29, 30, 31, MAX}, want = {0, 0, 0, 1, 29, 30, 30, 30};
            for (int i = 0; i < in.length; i++) due("law(0, " + in[i] + ", ..)", x.law(0, in[i], 5, 5, 5), want[i]);
        });
        edge(14, "TAKES isn't held: any number, and no ERROR", () -> {
            NineWells x = new NineWells();
            text(x, 1, "w");
            for (int v : new int[] {MIN, KIND, STATE, BEYOND, LOW, -1, 0, 1, 31, MAX}) due("law(1, " + v + ", ..)", x.law(1, v, 0, 0, 0), v);
            for (int k = 1; k <= 5; k++) due("told(" + k + ")", x.told(k), 0);
        });
        edge(14, "without a TEXT SLOWS gives 0, TAKES 1; with one it gives that, be it 0", () -> {
            NineWells x = new NineWells();
            due("law(0, ..)", x.law(0, 7, 7, 7, 7), 0);
            due("law(1, ..)", x.law(1, 7, 7, 7, 7), 1);
            text(x, 0, "9");
            due("law(1, ..)", x.law(1, 7, 7, 7, 7), 1);
            text(x, 1, "0");
            due("law(1, ..)", x.law(1, 7, 7, 7, 7), 0);
        });
        beyond(14, "USE -1", x -> x.law(-1, 0, 0, 0, 0));
        beyond(14, "USE 2", x -> x.law(2, 0, 0, 0, 0));
        beyond(14, "the least int for a USE", x -> x.law(MIN, 0, 0, 0, 0));
        beyond(14, "the greatest int for a USE", x -> x.law(MAX, 0, 0, 0, 0));
        onlyAsks(14, "law(0, 0, 0, 0, 30)", 10, x -> x.law(0, 0, 0, 0, 30));
    }

    private static void days() {
        edge(15, "n is 1 at least", () -> due("days(1)", new NineWells().days(1), 1));
        edge(15, "n is 100 at most: as a hundred times one", () -> {
            NineWells x = lived(), y = lived();
            due("days(100)", x.days(100), 103);
            for (int i = 4; i <= 103; i++) due("days(1)", y.days(1), i);
            due("days(100)", whatIsAsked(x), whatIsAsked(y));
        });
        edge(15, "TODAY is 9999 at most", () -> {
            NineWells x = new NineWells();
            goTo(x, 9998);
            due("days(2)", x.days(2), STATE);
            due("days(1)", x.days(1), 9999);
            due("days(1)", x.days(1), STATE);
            due("count(0)", x.count(0), 9999);
        });
        edge(15, "a hundred from DAY 9899, not from DAY 9900", () -> {
            NineWells x = new NineWells(), y = new NineWells();
            goTo(x, 9899);
            goTo(y, 9900);
            due("days(100) on DAY 9899", x.days(100), 9999);
            due("days(100) on DAY 9900", y.days(100), STATE);
            due("days(99) on DAY 9900", y.days(99), 9999);
        });
        beyond(15, "n 0", x -> x.days(0));
        beyond(15, "n 101", x -> x.days(101));
        beyond(15, "n -1", x -> x.days(-1));
        beyond(15, "the least int for n", x -> x.days(MIN));
        beyond(15, "the greatest int for n", x -> x.days(MAX));
        refused(15, "a DAY behind the last", STATE, Edges::late, x -> x.days(1));
        refused(15, "a hundred DAYS behind the last", STATE, Edges::late, x -> x.days(100));
        refused(15, "n 0 ahead of STATE", BEYOND, Edges::late, x -> x.days(0));
        refused(15, "n 101 ahead of STATE", BEYOND, Edges::late, x -> x.days(101));
        refused(15, "two DAYS where one is left", STATE, () -> { NineWells x = fresh(2); x.going(0, 1, 1); letNew(x, 0, 0, 0); goTo(x, 9998); return x; }, x -> x.days(2));
    }

    private static int where(NineWells x, int thing) {
        return x.ofThing(thing, 2) * 1000 + x.ofThing(thing, 3) * 100 + x.ofThing(thing, 4);
    }

    private static void oneDay() {
        edge(15, "in a WELL that leads to none it stays", () -> {
            NineWells x = fresh(1);
            letNew(x, 0, 0, 0);
            x.days(100);
            due("where it is", where(x, 0), 0);
        });
        edge(15, "one that is out stays out", () -> {
            NineWells x = fresh(1);
            x.going(0, 0, 1);
            x.thing(0, 0);
            letNew(x, 0, 0, 0);
            x.fish(1);
            x.days(9);
            due("out at nobody's", where(x, 0), 1900);
            due("out at 0", where(x, 1), 2000);
        });
        edge(15, "the DAY on which it goes below isn't one less: LASTS 1 is up on the second DAY", () -> {
            NineWells x = fresh(2);
            x.going(0, 1, 1);
            letNew(x, 0, 0, 0);
            x.days(1);
            due("on DAY 1", where(x, 0), 1101);
            x.days(1);
            due("on DAY 2", where(x, 0), 100);
        });
        edge(15, "one that comes up doesn't go below on that DAY", () -> {
            NineWells x = fresh(1);
            x.going(0, 0, 1);
            letNew(x, 0, 0, 0);
            for (int day = 1; day <= 6; day++) {
                x.days(1);
                due("on DAY " + day, where(x, 0), day % 2 == 1 ? 1001 : 0);
            }
        });
        edge(15, "what LASTS longest: 30 DAYS, m 30 and 30 of SLOWS, in MONTH 5", () -> {
            NineWells x = fresh(2);
            text(x, 0, "99");
            goTo(x, 150);
            x.going(0, 1, 30);
            letNew(x, 6, 30, 0);
            x.days(1);
            due("gone below", where(x, 0), 1100 + 95);
            x.days(94);
            due("a DAY still", where(x, 0), 1101);
            x.days(1);
            due("up", where(x, 0), 100);
        });
        edge(15, "at its turn: a HEAVY one waits for those with a lower number that have gone", () -> {
            NineWells x = fresh(2);
            x.going(0, 1, 9);
            letNew(x, 2, 1, 0);
            letNew(x, 2, 1, 0);
            x.days(1);
            due("the first", x.ofThing(0, 2), 1);
            due("the second", x.ofThing(1, 2), 0);
        });
        edge(15, "at its turn: a HEAVY one doesn't wait with those with a higher number", () -> {
            NineWells x = fresh(2);
            x.going(0, 1, 9);
            letNew(x, 2, 3, 0);
            for (int i = 0; i < 3; i++) letNew(x, 0, 0, 0);
            x.days(1);
            due("below", where(x, 0), 1112);
        });
        edge(15, "at its turn: a PAIR is slowed by those that went ahead of it on that DAY", () -> {
            NineWells x = fresh(2);
            x.going(0, 1, 9);
            for (int i = 0; i < 10; i++) letNew(x, 5, 0, 0);
            x.days(1);
            for (int i = 0; i < 10; i++) due("PAIR " + i, where(x, i), 1109 + i);
        });
        edge(15, "at its turn: those below come up behind all that go below", () -> {
            NineWells x = fresh(3);
            x.going(0, 1, 1);
            x.going(2, 1, 5);
            letNew(x, 0, 0, 0);
            x.days(1);
            letNew(x, 5, 0, 2);
            letNew(x, 2, 1, 1);
            x.going(1, 2, 3);
            x.days(1);
            due("up", where(x, 0), 100);
            due("the PAIR was slowed by it", where(x, 1), 1106);
            due("the HEAVY one waited", where(x, 2), 100);
            x.days(1);
            due("it goes with it", where(x, 0), 1203);
            due("and waits again", where(x, 2), 100);
        });
        edge(15, "the TOLL is of the WELL in which it comes up, 99 too", () -> {
            NineWells x = fresh(2);
            x.going(0, 1, 1);
            x.set(0, 0, 50);
            x.set(1, 0, 99);
            letNew(x, 0, 0, 0);
            x.days(1);
            due("ofThing(0, 5), below", x.ofThing(0, 5), 0);
            x.days(1);
            due("ofThing(0, 5), up", x.ofThing(0, 5), 99);
            x.days(9);
            due("ofThing(0, 5), in its WELL", x.ofThing(0, 5), 99);
        });
        edge(15, "SPENT, the most that 9999 DAYS allow, isn't cut", () -> {
            NineWells x = fresh(1);
            x.going(0, 0, 1);
            x.set(0, 0, 99);
            letNew(x, 0, 0, 0);
            goTo(x, 9999);
            due("ofThing(0, 5)", x.ofThing(0, 5), 4999 * 99);
            due("then(200, 0, 5)", x.then(200, 0, 5), 5099 * 99);
        });
        edge(15, "nobody FISHES: it is in the WELL; somebody: it is out there", () -> {
            for (int fishes = 0; fishes <= 1; fishes++) {
                NineWells x = fresh(2);
                x.going(0, 1, 1);
                x.set(1, 1, fishes);
                letNew(x, 0, 0, 0);
                x.days(2);
                due("with FISHES " + fishes, where(x, 0), fishes * 2000 + 100);
            }
        });
        edge(15, "TAKES 0 doesn't take, 1, -1 and others do", () -> {
            String[] texts = {"0", "1", "0-1", "2", "9999*9999", "1-1"};
            int[] out = {0, 1, 1, 1, 1, 0};
            for (int i = 0; i < texts.length; i++) {
                NineWells x = fresh(2);
                x.going(0, 1, 1);
                x.set(1, 1, 1);
                text(x, 1, texts[i]);
                letNew(x, 0, 0, 0);
                x.days(2);
                due("with " + texts[i], where(x, 0), out[i] * 2000 + 100);
            }
        });
        edge(15, "TAKES takes nothing where nobody FISHES", () -> {
            NineWells x = fresh(2);
            x.going(0, 1, 1);
            text(x, 1, "1");
            letNew(x, 0, 0, 0);
            x.days(2);
            due("where it is", where(x, 0), 100);
        });
        edge(15, "TAKES with the WELL it comes up in, its KIND, TODAY ahead of (3), SPENT with the TOLL", () -> {
            String[] texts = {"w=8", "w=0", "k=4", "k=0", "t=1", "t=2", "s=99", "s=0"};
            for (int i = 0; i < texts.length; i++) {
                NineWells x = fresh(9);
                x.going(0, 8, 1);
                x.set(8, 0, 99);
                x.set(8, 1, 1);
                text(x, 1, texts[i]);
                letNew(x, 4, 0, 0);
                x.days(2);
                due("with " + texts[i], x.ofThing(0, 2), i % 2 == 0 ? 2 : 0);
            }
        });
        edge(15, "one that isn't taken goes on from there", () -> {
            NineWells x = fresh(2);
            x.going(0, 1, 1);
            x.going(1, 0, 1);
            x.set(1, 1, 1);
            text(x, 1, "t>1");
            letNew(x, 0, 0, 0);
            x.days(3);
            due("on DAY 3", where(x, 0), 1001);
        });
        edge(15, "STAYS and LASTS are asked with TODAY as it is ahead of (3)", () -> {
            NineWells x = fresh(2);
            x.going(0, 1, 5);
            letNew(x, 6, 0, 0);
            x.days(1);
            due("a SUNK one, DAY 0 going by", where(x, 0), 0);
            x.days(1);
            due("a SUNK one, DAY 1 going by", where(x, 0), 1105);
            NineWells y = fresh(2);
            y.going(0, 1, 5);
            letNew(y, 3, 0, 0);
            goTo(y, 60);
            due("a COLD one, DAY 59 going by", where(y, 0), 0);
            y.days(1);
            due("a COLD one, DAY 60 going by", where(y, 0), 1110);
            NineWells z = fresh(2);
            z.going(0, 1, 5);
            goTo(z, 149);
            letNew(z, 6, 4, 0);
            z.days(1);
            due("a SUNK one, DAY 149 going by", where(z, 0), 1109);
            letNew(z, 6, 4, 0);
            z.days(1);
            due("a SUNK one, DAY 150 going by", where(z, 1), 1114);
        });
    }

    private static int drawn(int z) {
        return (int) (z * 1103515245L + 12345L);
    }

    private static int given(int z) {
        return (int) ((z & 0xFFFFFFFFL) / 256);
    }

    private static void floods() {
        edge(16, "n is 1 at least: three draws", () -> {
            NineWells x = fresh(9);
            due("floods(1)", x.floods(1), 1);
            due("count(8)", x.count(8), drawn(drawn(drawn(1))));
        });
        edge(16, "n is 100 at most: as a hundred times one", () -> {
            NineWells x = lived(), y = lived();
            due("floods(100)", x.floods(100), 103);
            for (int i = 4; i <= 103; i++) due("floods(1)", y.floods(1), i);
            due("floods(100)", whatIsAsked(x), whatIsAsked(y));
        });
        edge(16, "TODAY is 9999 at most", () -> {
            NineWells x = fresh(1);
            goTo(x, 9998);
            due("floods(2)", x.floods(2), STATE);
            due("count(8)", x.count(8), 1);
            due("floods(1)", x.floods(1), 9999);
            due("floods(1)", x.floods(1), STATE);
        });
        edge(16, "a hundred from DAY 9899, not from DAY 9900", () -> {
            NineWells x = fresh(1), y = fresh(1);
            goTo(x, 9899);
            goTo(y, 9900);
            due("floods(100) on DAY 9899", x.floods(100), 9999);
            due("floods(100) on DAY 9900", y.floods(100), STATE);
        });
        edge(16, "draws wrap and give no number below 0: z of the least int, -1, 0, the greatest int", () -> {
            for (int z : new int[] {MIN, MIN + 1, -77, -1, 0, 1, MAX - 1, MAX}) {
                for (int wells = 1; wells <= 9; wells++) {
                    NineWells x = fresh(wells);
                    x.seed(z);
                    due("floods(1)", x.floods(1), 1);
                    int a = drawn(z), b = drawn(a), c = drawn(b);
                    int well = given(a) % wells;
                    due("where it leads", x.ofWell(well, 0), given(b) % wells);
                    due("its DAYS", x.ofWell(well, 1), given(c) % 9 + 1);
                    due("z", x.count(8), c);
                    for (int w = 0; w < wells; w++) if (w != well) due("another's", x.ofWell(w, 0) * 100 + x.ofWell(w, 1), -99);
                }
            }
        });
        edge(16, "DAYS are 1 to 9, each WELL is led from and to", () -> {
            int from = 0, to = 0, days = 0;
            for (int i = 0; i < 40; i++) {
                NineWells x = fresh(9);
                x.seed(i);
                x.floods(5);
                for (int w = 0; w < 9; w++) {
                    if (x.ofWell(w, 0) < 0) continue;
                    from |= 1 << w;
                    to |= 1 << x.ofWell(w, 0);
                    days |= 1 << x.ofWell(w, 1);
                }
            }
            due("from, as bits,", from, 511);
            due("to, as bits,", to, 511);
            due("DAYS, as bits,", days, 1022);
        });
        edge(16, "the GOING is there ahead of the DAY: a THING goes by it on that very DAY", () -> {
            NineWells x = fresh(1);
            letNew(x, 0, 0, 0);
            x.floods(1);
            due("where it is", where(x, 0), 1000 + given(drawn(drawn(drawn(1)))) % 9 + 1);
        });
        beyond(16, "n 0", x -> x.floods(0));
        beyond(16, "n 101", x -> x.floods(101));
        beyond(16, "n -1", x -> x.floods(-1));
        beyond(16, "the least int for n", x -> x.floods(MIN));
        beyond(16, "the greatest int for n", x -> x.floods(MAX));
        refused(16, "a DAY behind the last", STATE, Edges::late, x -> x.floods(1));
        refused(16, "without WELLS", STATE, NineWells::new, x -> x.floods(1));
        refused(16, "without WELLS, a hundred", STATE, NineWells::new, x -> x.floods(100));
        refused(16, "n 0 ahead of STATE (no WELLS)", BEYOND, NineWells::new, x -> x.floods(0));
        refused(16, "n 101 ahead of STATE (no WELLS)", BEYOND, NineWells::new, x -> x.floods(101));
        refused(16, "n 0 ahead of STATE (the last DAY)", BEYOND, Edges::late, x -> x.floods(0));
        refused(16, "n 101 ahead of STATE (the last DAY)", BEYOND, Edges::late, x -> x.floods(101));
    }

    public static void main(String[] args) {
        feed();
        bytesThatGoOn();
        text();
        law();
        days();
        oneDay();
        floods();
        end("TextsEdgesTest", 12, 16);
    }
}
