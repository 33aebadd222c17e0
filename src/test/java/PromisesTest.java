/** For each promise of the document: ordinary calls, the edges that it names, and wrong numbers. */
public final class PromisesTest {
    private static final long NO = BallotWays.NO;
    private static final int LEAST = Integer.MIN_VALUE;
    private static final int GREATEST = Integer.MAX_VALUE;

    /** Five candidates, 45 ballots, cycles: the example of Schulze's paper. */
    private static final String CYCLES = "5:0>2>1>4>3;5:0>3>4>2>1;8:1>4>3>0>2;3:2>0>1>4>3;"
            + "7:2>0>4>1>3;2:2>1>0>3>4;7:3>2>4>1>0;8:4>1>0>3>2";

    private static Check check = new Check();
    private static String promise = "";

    public static void main(String[] args) {
        newObject();
        begin();
        out();
        measure();
        aheadAndDrawn();
        shuffle();
        feedAndClear();
        ballots();
        faultsOfBallots();
        roomOfBallots();
        remove();
        ballot();
        find();
        spellAndPaper();
        pairAndLink();
        strength();
        strengthByRatio();
        way();
        barrierAndBeats();
        winnersAndRanks();
        smith();
        clones();
        sum();
        without();
        would();
        needs();
        turners();
        agree();
        flips();
        prove();
        proves();
        told();
        lists();
        imageAndUndo();
        check.end();
    }

    private static void due(String call, long got, long want) {
        check.due(promise + ": " + call, got, want);
    }

    private static BallotWays fresh(int n, String parts) {
        BallotWays x = new BallotWays();
        x.begin(n);
        if (!parts.isEmpty()) {
            check.isTrue(promise + ": " + parts, tell(x, parts) > 0);
        }
        return x;
    }

    private static void feed(BallotWays x, String text) {
        for (int k = 0; k < text.length(); k++) {
            x.feed(text.charAt(k));
        }
    }

    /** BALLOTS as a text that may be longer than THE TAPE: told by part. */
    private static int tell(BallotWays x, String parts) {
        int all = 0;
        for (String part : parts.split(";")) {
            int told = ballots(x, part);
            if (told < 0) {
                return told;
            }
            all += told;
        }
        return all;
    }

    private static int ballots(BallotWays x, String text) {
        feed(x, text);
        return x.ballots();
    }

    private static int find(BallotWays x, String text) {
        feed(x, text);
        return x.find();
    }

    private static int would(BallotWays x, String text, int c) {
        feed(x, text);
        return x.would(c);
    }

    private static int needs(BallotWays x, String text, int candidate) {
        feed(x, text);
        return x.needs(candidate);
    }

    private static String paper(BallotWays x) {
        StringBuilder text = new StringBuilder();
        for (int i = 0; x.paper(i) != BallotWays.NONE; i++) {
            text.append((char) x.paper(i));
        }
        return text.toString();
    }

    private static void newObject() {
        promise = "1 a new object";
        BallotWays x = new BallotWays();
        for (int what = 0; what < 9; what++) {
            due("told(" + what + ")", x.told(what), what == 0 ? 3 : 0);
        }
        due("drawn(0)", x.drawn(0), 0);
        due("drawn(2)", x.drawn(2), 2);
        due("paper(0)", x.paper(0), -1);
        due("get(0, 0)", x.get(0, 0), NO);
        due("set(0, 0, 1)", x.set(0, 0, 1), -11);
        due("undo()", x.undo(), -3);
    }

    private static void begin() {
        promise = "2 begin";
        BallotWays x = fresh(8, "3:7>6");
        x.measure(2);
        x.list(1, 2);
        x.spell(0);
        x.out(3, 1);
        x.shuffle(5);
        feed(x, "1:0");
        x.image();
        due("begin(1)", x.begin(1), -2);
        due("begin(9)", x.begin(9), -2);
        due("begin(-1)", x.begin(LEAST), -2);
        due("told(1)", x.told(1), 1);
        due("begin(2)", x.begin(2), 8);
        due("n", x.told(0), 2);
        due("BALLOTS", x.told(1), 0);
        due("COUNTS", x.told(2), 0);
        due("OUT", x.told(3), 0);
        due("MEASURE stays", x.told(4), 2);
        due("THE TAPE stays", x.told(5), 3);
        due("THE PAPER stays", x.told(6), 3);
        due("LISTS stay", x.get(1, 1), 0);
        due("drawn(0)", x.drawn(0), 0);
        due("drawn(1)", x.drawn(1), 1);
        due("drawn(2)", x.drawn(2), -1);
        due("pair(0, 1)", x.pair(0, 1), 0);
        due("pair(1, 2)", x.pair(1, 2), NO);
        due("THE IMAGE stays", x.undo(), 1);
        due("begin(8)", x.begin(8), 8);
    }

    private static void out() {
        promise = "3 out";
        BallotWays x = fresh(3, "1:0>1>2");
        due("out(3, 0)", x.out(3, 0), -1);
        due("out(-1, 0)", x.out(-1, 0), -1);
        due("out(0, 2)", x.out(0, 2), -1);
        due("out(0, -1)", x.out(0, -1), -1);
        due("out(0, 0)", x.out(0, 0), 0);
        due("out(0, 1)", x.out(0, 1), 0);
        due("out(0, 1) again", x.out(0, 1), 1);
        due("told(3)", x.told(3), 1);
        due("winners()", x.winners(), 2);
        due("out(2, 1)", x.out(2, 1), 0);
        due("out(1, 1)", x.out(1, 1), -3);
        due("told(3)", x.told(3), 5);
        due("out(2, 1) again", x.out(2, 1), 1);
        due("out(2, 0)", x.out(2, 0), 1);
        due("out(2, 0) again", x.out(2, 0), 0);
        due("told(3)", x.told(3), 1);
    }

    private static void measure() {
        promise = "4 measure";
        BallotWays x = new BallotWays();
        due("measure(4)", x.measure(4), -1);
        due("measure(-1)", x.measure(-1), -1);
        due("measure(3)", x.measure(3), 0);
        due("measure(1)", x.measure(1), 3);
        due("measure(1)", x.measure(1), 1);
        due("told(4)", x.told(4), 1);
    }

    private static void aheadAndDrawn() {
        promise = "5 ahead, 7 drawn";
        BallotWays x = fresh(4, "");
        due("ahead(4)", x.ahead(4), -1);
        due("ahead(-1)", x.ahead(-1), -1);
        due("ahead(2)", x.ahead(2), 2);
        due("ahead(3)", x.ahead(3), 3);
        due("ahead(3) again", x.ahead(3), 0);
        x.out(0, 1);
        due("ahead(0), OUT", x.ahead(0), 2);
        int[] draw = {0, 3, 2, 1};
        for (int k = 0; k < 4; k++) {
            due("drawn(" + k + ")", x.drawn(k), draw[k]);
        }
        due("drawn(4)", x.drawn(4), -1);
        due("drawn(-1)", x.drawn(-1), -1);
        due("ranked(0)", x.ranked(0), 3);
    }

    private static void shuffle() {
        promise = "6 shuffle";
        BallotWays x = fresh(6, "");
        x.ahead(4);
        due("shuffle(7)", x.shuffle(7), 1);
        int[] draw = {1, 3, 4, 5, 2, 0};
        for (int k = 0; k < 6; k++) {
            due("drawn(" + k + ")", x.drawn(k), draw[k]);
        }
        due("shuffle(7) again", x.shuffle(7), 1);
        due("shuffle(-1)", x.shuffle(-1), 5);
        int[] seeds = {0, LEAST, GREATEST, -123456789};
        for (int seed : seeds) {
            x.shuffle(seed);
            int[] order = {0, 1, 2, 3, 4, 5};
            int z = seed;
            for (int k = 5; k > 0; k--) {
                z = z * 1103515245 + 12345;
                int other = (z >>> 9) % (k + 1);
                int moved = order[k];
                order[k] = order[other];
                order[other] = moved;
            }
            for (int k = 0; k < 6; k++) {
                due("drawn(" + k + ") by " + seed, x.drawn(k), order[k]);
            }
        }
    }

    private static void feedAndClear() {
        promise = "8 feed, 9 clear";
        BallotWays x = new BallotWays();
        due("feed(0)", x.feed(0), -2);
        due("feed(128)", x.feed(128), -2);
        due("feed(-1)", x.feed(-1), -2);
        due("clear()", x.clear(), 0);
        for (int k = 1; k <= 120; k++) {
            due("feed(" + k + ")", x.feed(k), k);
        }
        due("feed(127)", x.feed(127), -4);
        due("feed(0), full", x.feed(0), -2);
        due("told(5)", x.told(5), 120);
        due("clear()", x.clear(), 120);
        due("told(5)", x.told(5), 0);
        due("feed(127)", x.feed(127), 1);
        due("feed(1)", x.feed(1), 2);
        due("clear()", x.clear(), 2);
    }

    private static void ballots() {
        promise = "10 ballots";
        BallotWays x = fresh(4, "");
        due("three parts", ballots(x, "3:0>1=2;0000002:1;1:3=2=1=0"), 3);
        due("told(5)", x.told(5), 0);
        due("told(1)", x.told(1), 3);
        due("told(2)", x.told(2), 6);
        due("one that is there", ballots(x, "4:0>2=1>3"), 1);
        due("told(1)", x.told(1), 3);
        due("ballot(0, 0)", x.ballot(0, 0), 7);
        due("one twice in a text", ballots(x, "1:3;2:3>2=0=1"), 2);
        due("told(1)", x.told(1), 4);
        due("ballot(3, 0)", x.ballot(3, 0), 3);
        due("pair(0, 1)", x.pair(0, 1), 7);
        due("a fault undoes all parts", ballots(x, "9:2;1:4"), -106);
        due("told(1)", x.told(1), 4);
        due("told(2)", x.told(2), 13);
        due("pair(2, 0)", x.pair(2, 0), 0);
        due("told(5)", x.told(5), 0);
        x.out(1, 1);
        due("one OUT is told", ballots(x, "1:1>0"), 1);
        due("ballot(4, 11)", x.ballot(4, 11), 0);
    }

    private static void faultsOfBallots() {
        promise = "10 ballots, faults";
        BallotWays x = fresh(3, "");
        String[] texts = {"", "a", "1", "1:", "1:0>", "1:0=", "1:0;", "1:0;;", ":0", "1;0", "1:0:1", "1:0>>1",
            "1:3", "1:0>3", "1:0>1>0", "1:a", "0", "0:0", "00:0", "0000000", "00000000:0", "1000000", "1000001",
            "10000000", "10000001", "1000001:0", "99999999", "9999999", "0000001:0;0:1", "00000001:0", "1:0,",
            "1:0>1>2>", "1:0>1>2>0", "1:0>1>2;", "1:0 ", " 1:0", "1:0;1:1;1:1>1", "1:0;x;0:0", "1:00"};
        int[] faults = {0, 0, 1, 2, 4, 4, 4, 4, 0, 1, 3, 4,
            2, 4, 6, 2, 0, 0, 0, 0, 0, 7, 0,
            7, 7, 0, 0, 0, 10, 0, 3,
            8, 8, 8, 3, 0, 12, 4, 3};
        for (int k = 0; k < texts.length; k++) {
            due("'" + texts[k] + "'", ballots(x, texts[k]), -100 - faults[k]);
            due("told(1)", x.told(1), 0);
            due("told(5)", x.told(5), 0);
        }
    }

    private static void roomOfBallots() {
        promise = "10 ballots, room";
        BallotWays x = fresh(8, "");
        int told = 0;
        for (int a = 0; a < 8 && told < 39; a++) {
            for (int b = 0; b < 8 && told < 39; b++) {
                if (a != b) {
                    told += ballots(x, "1:" + a + ">" + b);
                }
            }
        }
        due("39 told", x.told(1), 39);
        due("40th and 41st", ballots(x, "5:0;6:1"), -104);
        due("told(1)", x.told(1), 39);
        due("40th", ballots(x, "999999:0=1>2;1:1=0>2"), 2);
        due("told(1)", x.told(1), 40);
        due("41st", ballots(x, "5:0"), -100);
        due("41st, ahead of the byte behind", ballots(x, "5:0,"), -100);
        due("a fault in the RANKING, ahead of the room", ballots(x, "5:0>"), -104);
        due("41st as the second", ballots(x, "1:0>1;5:0"), -106);
        due("an earlier part ahead", ballots(x, "5:0;0:1"), -100);
        due("a byte of an earlier part", ballots(x, "1:0>1,5:0"), -105);
        due("one that is there", ballots(x, "7:0>1"), 1);
        due("a COUNT above a million", ballots(x, "1:0=1>2"), -100);
        due("a COUNT above a million, a byte behind", ballots(x, "1:0=1>2:"), -100);
        due("ballot(39, 0)", x.ballot(39, 0), 1000000);
        due("remove(39, 1)", x.remove(39, 1), 999999);
        due("twice one is too many", ballots(x, "1:0=1>2;1:0=1>2"), -108);
        due("up to a million", ballots(x, "1:0=1>2"), 1);
        due("remove(0, 8)", x.remove(0, 8), 0);
        due("room again", ballots(x, "5:0"), 1);
        due("told(1)", x.told(1), 40);
    }

    private static void remove() {
        promise = "11 remove";
        BallotWays x = fresh(3, "5:0;6:1;7:2");
        due("remove(3, 1)", x.remove(3, 1), -1);
        due("remove(-1, 1)", x.remove(-1, 1), -1);
        due("remove(3, 0)", x.remove(3, 0), -1);
        due("remove(1, 0)", x.remove(1, 0), -2);
        due("remove(1, 7)", x.remove(1, 7), -2);
        due("remove(1, LEAST)", x.remove(1, LEAST), -2);
        due("remove(1, GREATEST)", x.remove(1, GREATEST), -2);
        due("remove(1, 2)", x.remove(1, 2), 4);
        due("pair(1, 0)", x.pair(1, 0), 4);
        due("remove(1, 4)", x.remove(1, 4), 0);
        due("pair(1, 0)", x.pair(1, 0), 0);
        due("told(1)", x.told(1), 2);
        due("later ones have 1 less", x.ballot(1, 0), 7);
        due("its RANKING too", x.ballot(1, 12), 0);
        due("remove(2, 1)", x.remove(2, 1), -1);
        due("a new one comes last", ballots(x, "9:1"), 1);
        due("ballot(2, 0)", x.ballot(2, 0), 9);
    }

    private static void ballot() {
        promise = "12 ballot";
        BallotWays x = fresh(4, "3:2>0=1;2:0=1=2=3");
        int[] places = {1, 1, 0, 2};
        due("ballot(0, 0)", x.ballot(0, 0), 3);
        due("ballot(0, 1)", x.ballot(0, 1), 3);
        due("ballot(1, 1)", x.ballot(1, 1), 1);
        for (int c = 0; c < 4; c++) {
            due("ballot(0, 10 + " + c + ")", x.ballot(0, 10 + c), places[c]);
            due("ballot(1, 10 + " + c + ")", x.ballot(1, 10 + c), 0);
        }
        int[] wrong = {-1, 2, 9, 14, 17, 18, LEAST, GREATEST};
        for (int what : wrong) {
            due("ballot(0, " + what + ")", x.ballot(0, what), -1);
        }
        due("ballot(2, 0)", x.ballot(2, 0), -1);
        due("ballot(-1, 0)", x.ballot(-1, 0), -1);
        BallotWays eight = fresh(8, "1:7>6>5>4>3>2>1>0");
        due("ballot(0, 1) of eight", eight.ballot(0, 1), 8);
        due("ballot(0, 17) of eight", eight.ballot(0, 17), 0);
        due("ballot(0, 10) of eight", eight.ballot(0, 10), 7);
        due("ballot(0, 18) of eight", eight.ballot(0, 18), -1);
    }

    private static void find() {
        promise = "13 find";
        BallotWays x = fresh(3, "1:0>1>2;1:1=2;1:2=1=0");
        due("0>1", find(x, "0>1"), 0);
        due("told(5)", x.told(5), 0);
        due("2=1>0", find(x, "2=1>0"), 1);
        due("0=1=2", find(x, "0=1=2"), 2);
        due("0", find(x, "0"), -5);
        due("1>0", find(x, "1>0"), -5);
        due("nothing", find(x, ""), -100);
        due("1:0", find(x, "1:0"), -101);
        due("0;", find(x, "0;"), -101);
        due("0>", find(x, "0>"), -102);
        due("0>0", find(x, "0>0"), -102);
        due("3", find(x, "3"), -100);
        due("told(5)", x.told(5), 0);
    }

    private static void spellAndPaper() {
        promise = "14 spell, 15 paper";
        BallotWays x = fresh(8, "1:7>6>5>4>3>2>1>0;1:3=1;1:7=6=5=4=3=2=1=0;1:5>4=2=0");
        due("spell(0)", x.spell(0), 13);
        check.isTrue("its text", paper(x).equals("7>6>5>4>3>2>1"));
        due("paper(12)", x.paper(12), '1');
        due("paper(13)", x.paper(13), -1);
        due("paper(-1)", x.paper(-1), -1);
        due("told(6)", x.told(6), 13);
        due("spell(1)", x.spell(1), 3);
        check.isTrue("its text", paper(x).equals("1=3"));
        due("paper(3)", x.paper(3), -1);
        due("spell(2)", x.spell(2), 15);
        check.isTrue("its text", paper(x).equals("0=1=2=3=4=5=6=7"));
        due("spell(3)", x.spell(3), 7);
        check.isTrue("its text", paper(x).equals("5>0=2=4"));
        due("spell(4)", x.spell(4), -1);
        due("spell(-1)", x.spell(-1), -1);
        check.isTrue("THE PAPER stays", paper(x).equals("5>0=2=4"));
    }

    private static void pairAndLink() {
        promise = "16 pair, 17 link";
        BallotWays x = fresh(4, "3:0>1>2;2:1=0;1000000:2>1;999000:2>1>3");
        due("pair(0, 1)", x.pair(0, 1), 3);
        due("pair(1, 0)", x.pair(1, 0), 1999000);
        due("pair(2, 1)", x.pair(2, 1), 1999000);
        due("pair(1, 2)", x.pair(1, 2), 5);
        due("pair(0, 3)", x.pair(0, 3), 5);
        due("pair(3, 0)", x.pair(3, 0), 999000);
        due("link(1, 0)", x.link(1, 0), 1);
        due("link(0, 1)", x.link(0, 1), 0);
        int[][] wrong = {{0, 0}, {3, 3}, {0, 4}, {4, 0}, {-1, 0}, {0, -1}, {GREATEST, LEAST}};
        for (int[] two : wrong) {
            due("pair(" + two[0] + ", " + two[1] + ")", x.pair(two[0], two[1]), NO);
            due("link(" + two[0] + ", " + two[1] + ")", x.link(two[0], two[1]), -1);
        }
        x.out(1, 1);
        due("pair of one OUT", x.pair(1, 0), 1999000);
        due("link of one OUT", x.link(1, 0), 0);
        due("link to one OUT", x.link(2, 1), 0);
        BallotWays same = fresh(2, "4:0;4:1");
        due("as many both ways", same.link(0, 1) + same.link(1, 0), 0);
    }

    private static void strength() {
        promise = "18 strength";
        BallotWays x = fresh(5, CYCLES);
        int[][] strengths = {{0, 28, 28, 30, 24}, {25, 0, 28, 33, 24}, {25, 29, 0, 29, 24},
            {25, 28, 28, 0, 24}, {25, 28, 28, 31, 0}};
        for (int i = 0; i < 5; i++) {
            for (int j = 0; j < 5; j++) {
                if (i != j) {
                    x.measure(0);
                    due("strength(" + i + ", " + j + ", 0)", x.strength(i, j, 0), strengths[i][j]);
                    due("strength(" + i + ", " + j + ", 1)", x.strength(i, j, 1), 1);
                    x.measure(1);
                    due("by 1", x.strength(i, j, 0), 2 * strengths[i][j] - 45);
                    x.measure(3);
                    due("by 3", x.strength(i, j, 0), 45 - strengths[i][j]);
                    due("by 3, part 1", x.strength(i, j, 1), 1);
                }
            }
        }
        due("strength(0, 0, 0)", x.strength(0, 0, 0), NO);
        due("strength(0, 5, 0)", x.strength(0, 5, 0), NO);
        due("strength(-1, 0, 0)", x.strength(-1, 0, 0), NO);
        due("strength(0, 1, 2)", x.strength(0, 1, 2), NO);
        due("strength(0, 1, -1)", x.strength(0, 1, -1), NO);
        x.out(4, 1);
        due("strength(4, 0, 0), OUT", x.strength(4, 0, 0), NO);
        due("strength(0, 4, 0), OUT", x.strength(0, 4, 0), NO);
        BallotWays none = fresh(3, "1:0>1");
        due("none", none.strength(1, 0, 0), NO);
        due("none, part 1", none.strength(1, 0, 1), NO);
    }

    private static void strengthByRatio() {
        promise = "18 strength by 2";
        BallotWays x = fresh(3, "6:0>1;4:1>0");
        x.measure(2);
        due("6 by 4, above", x.strength(0, 1, 0), 3);
        due("6 by 4, below", x.strength(0, 1, 1), 2);
        due("10 by 0, above", x.strength(0, 2, 0), 10);
        due("10 by 0, below", x.strength(0, 2, 1), 0);
        // Unlike fractions of great numbers are told apart: 999999 / 999998 is greater than 1000000 / 999999.
        BallotWays close = fresh(4, "999999:0=2>1=3;999998:1=3>0=2;1:2>0=1>3;1:0>3>2>1");
        close.measure(2);
        close.image();
        due("pair(2, 3)", close.pair(2, 3), 1000000);
        due("pair(3, 2)", close.pair(3, 2), 999999);
        due("pair(0, 1)", close.pair(0, 1), 1000000);
        due("pair(1, 0)", close.pair(1, 0), 999998);
        due("part 0", close.strength(2, 3, 0), 1000000);
        due("part 1", close.strength(2, 3, 1), 999999);
        due("in lowest terms, 0", close.strength(0, 1, 0), 500000);
        due("in lowest terms, 1", close.strength(0, 1, 1), 499999);
        // By 0 is stronger than all that aren't, and of two such that with more FOR is.
        BallotWays by0 = fresh(4, "2:0>1>2>3;3:0=2>1=3");
        by0.measure(2);
        due("pair(0, 1)", by0.pair(0, 1), 5);
        due("strength(0, 3, 0)", by0.strength(0, 3, 0), 5);
        due("strength(1, 2, 0)", by0.strength(1, 2, 0), NO);
        due("strength(0, 2, 0)", by0.strength(0, 2, 0), 2);
        due("strength(0, 2, 1)", by0.strength(0, 2, 1), 0);
        due("strength(2, 1, 0)", by0.strength(2, 1, 0), 3);
        due("strength(2, 1, 1)", by0.strength(2, 1, 1), 2);
        due("strength(1, 3, 0)", by0.strength(1, 3, 0), 2);
    }

    private static void way() {
        promise = "19 way";
        BallotWays x = fresh(5, CYCLES);
        int[] steps = {0, 3, 2, 1};
        due("way(0, 1, -1)", x.way(0, 1, -1), 4);
        for (int k = 0; k < 4; k++) {
            due("way(0, 1, " + k + ")", x.way(0, 1, k), steps[k]);
        }
        due("way(0, 1, 4)", x.way(0, 1, 4), -1);
        due("way(0, 1, GREATEST)", x.way(0, 1, GREATEST), -1);
        due("way(0, 1, -2)", x.way(0, 1, -2), -1);
        due("way(0, 0, -1)", x.way(0, 0, -1), -1);
        due("way(0, 5, -1)", x.way(0, 5, -1), -1);
        due("way(-1, 5, -1)", x.way(-1, 5, -1), -1);
        due("way(0, 3, -1)", x.way(0, 3, -1), 2);
        // The strongest is longer than the straight one.
        due("way(2, 4, -1)", x.way(2, 4, -1), 5 - 3);
        x.out(3, 1);
        due("way(3, 0, -1), OUT", x.way(3, 0, -1), -3);
        due("way(0, 3, 9), OUT", x.way(0, 3, 9), -3);
        due("way(3, 0, -2), OUT", x.way(3, 0, -2), -1);
        BallotWays none = fresh(3, "1:0>1");
        due("way(1, 0, -1)", none.way(1, 0, -1), -5);
        due("way(1, 0, 7)", none.way(1, 0, 7), -5);
        // Of several as strong and as short the least CANDIDATE behind i: 0 to 3 by 1 or by 2.
        BallotWays twins = fresh(4, "3:0>1=2>3;2:1=2>3>0;2:3>0>1=2");
        due("way(0, 3, -1)", twins.way(0, 3, -1), 3);
        due("way(0, 3, 1)", twins.way(0, 3, 1), 1);
        due("way(0, 3, 2)", twins.way(0, 3, 2), 3);
        // As strong, but with fewer LINKS.
        BallotWays short0 = fresh(3, "2:0>1>2");
        due("way(0, 2, -1)", short0.way(0, 2, -1), 2);
    }

    private static void barrierAndBeats() {
        promise = "20 barrier, 21 beats";
        BallotWays x = fresh(5, CYCLES);
        int[] order = {4, 0, 2, 1, 3};
        for (int a = 0; a < 5; a++) {
            for (int b = 0; b < 5; b++) {
                if (a != b) {
                    due("beats(" + order[a] + ", " + order[b] + ")", x.beats(order[a], order[b]), a < b ? 1 : 0);
                }
            }
        }
        due("barrier(0, 4)", x.barrier(0, 4), 15);
        due("barrier(0, 1)", x.barrier(0, 1), 9);
        due("barrier(1, 3)", x.barrier(1, 3), 2);
        int[][] wrong = {{0, 0}, {0, 5}, {5, 0}, {-1, 2}, {2, LEAST}};
        for (int[] two : wrong) {
            due("barrier(" + two[0] + ", " + two[1] + ")", x.barrier(two[0], two[1]), -1);
            due("beats(" + two[0] + ", " + two[1] + ")", x.beats(two[0], two[1]), -1);
        }
        x.out(2, 1);
        due("barrier(2, 0), OUT", x.barrier(2, 0), -3);
        due("barrier(0, 2), OUT", x.barrier(0, 2), -3);
        due("beats(2, 0), OUT", x.beats(2, 0), -3);
        due("beats(0, 2), OUT", x.beats(0, 2), -3);
        BallotWays chain = fresh(4, "1:0>1>2");
        due("barrier(2, 0): all to which there are WAYS", chain.barrier(2, 0), 12);
        due("barrier(3, 0): i alone", chain.barrier(3, 0), 8);
        due("any is stronger than none", chain.beats(0, 3), 1);
        due("none isn't stronger than none", fresh(2, "").beats(0, 1), 0);
    }

    private static void winnersAndRanks() {
        promise = "22 winners, 23 ranked, 24 rank";
        BallotWays x = fresh(5, CYCLES);
        int[] order = {4, 0, 2, 1, 3};
        due("winners()", x.winners(), 16);
        for (int k = 0; k < 5; k++) {
            due("ranked(" + k + ")", x.ranked(k), order[k]);
            due("rank(" + order[k] + ")", x.rank(order[k]), k);
        }
        due("ranked(5)", x.ranked(5), -1);
        due("ranked(-1)", x.ranked(-1), -1);
        due("rank(5)", x.rank(5), -1);
        due("rank(-1)", x.rank(-1), -1);
        x.out(4, 1);
        due("rank(4), OUT", x.rank(4), -3);
        due("ranked(4), four are IN", x.ranked(4), -1);
        due("rank(0)", x.rank(0), 0);
        due("winners()", x.winners(), 1);
        BallotWays ties = fresh(4, "1:0=1>2=3");
        due("winners()", ties.winners(), 3);
        ties.ahead(1);
        ties.ahead(3);
        int[] drawn = {1, 0, 3, 2};
        for (int k = 0; k < 4; k++) {
            due("ranked(" + k + ") by THE DRAW", ties.ranked(k), drawn[k]);
        }
    }

    private static void smith() {
        promise = "25 smith";
        BallotWays x = fresh(6, "9:0>1>2>3>4>5;8:1>2>0>4>5>3;7:2>0>1>5>3>4");
        due("smith()", x.smith(), 7);
        x.out(1, 1);
        due("smith(), 1 is OUT", x.smith(), 4);
        due("smith() of ties", fresh(4, "1:0=1>2=3").smith(), 3);
        due("smith() of none", fresh(5, "").smith(), 31);
        due("smith() of one", fresh(3, "2:1;1:0").smith(), 2);
        BallotWays alone = fresh(2, "");
        alone.out(0, 1);
        due("smith() of one IN", alone.smith(), 2);
        // A tie with one of the set draws another one in.
        due("smith() by a tie", fresh(4, "1:0>1>2>3;1:0>3>1>2").smith(), 1);
        due("smith() by two ties", fresh(4, "1:0>1>2>3;1:1>2>0>3").smith(), 7);
    }

    private static void clones() {
        promise = "26 clones";
        BallotWays x = fresh(6, "9:0>1>2>3>4>5;8:1>2>0>4>5>3;7:2>0>1>5>3>4");
        due("clones(-1)", x.clones(-1), 2);
        due("clones(0)", x.clones(0), 7);
        due("clones(1)", x.clones(1), 56);
        due("clones(2)", x.clones(2), -1);
        due("clones(-2)", x.clones(-2), -1);
        due("clones(LEAST)", x.clones(LEAST), -1);
        x.out(5, 1);
        due("clones(-1), 5 is OUT", x.clones(-1), 2);
        due("clones(1), 5 is OUT", x.clones(1), 24);
        BallotWays ties = fresh(4, "1:0=1>2>3");
        // 0 shares a PLACE with 1, so {1, 2} aren't: {0, 1}, {2, 3}, {0, 1, 2}.
        due("clones(-1) of ties", ties.clones(-1), 3);
        due("clones(0)", ties.clones(0), 3);
        due("clones(1)", ties.clones(1), 7);
        due("clones(2)", ties.clones(2), 12);
        due("without BALLOTS", fresh(4, "").clones(-1), 10);
        due("of two", fresh(2, "").clones(-1), 0);
        due("of two, the first", fresh(2, "").clones(0), -1);
    }

    private static void sum() {
        promise = "27 sum";
        BallotWays x = fresh(4, "3:0>1>2;2:1=0;1000000:3>2");
        due("sum(0, 0)", x.sum(0, 0), 9 + 4);
        due("sum(1, 0)", x.sum(1, 0), 6 + 4);
        due("sum(2, 0)", x.sum(2, 0), 3 + 2000000);
        due("sum(3, 0)", x.sum(3, 0), 3000000);
        due("sum(0, 1)", x.sum(0, 1), 3);
        due("sum(1, 1)", x.sum(1, 1), 0);
        due("sum(3, 1)", x.sum(3, 1), 1000000);
        due("sum(4, 0)", x.sum(4, 0), NO);
        due("sum(-1, 0)", x.sum(-1, 0), NO);
        due("sum(0, 2)", x.sum(0, 2), NO);
        due("sum(0, -1)", x.sum(0, -1), NO);
        x.out(1, 1);
        due("sum(1, 0), OUT", x.sum(1, 0), NO);
        due("sum(1, 1), OUT", x.sum(1, 1), NO);
        due("sum(0, 0), 1 is OUT", x.sum(0, 0), 6 + 4);
        due("sum(0, 1), 1 is OUT", x.sum(0, 1), 5);
        x.out(0, 1);
        x.out(3, 1);
        due("one IN alone, SUM", x.sum(2, 0), 0);
        due("one IN alone, LEADS", x.sum(2, 1), 1000005);
    }

    private static void without() {
        promise = "28 without";
        BallotWays x = fresh(3, "5:0>1>2;3:1>2>0;1:2>1>0");
        due("FIRST", x.ranked(0), 0);
        due("without(0)", x.without(0), 1);
        due("without(1)", x.without(1), 0);
        due("told(3)", x.told(3), 0);
        due("without(3)", x.without(3), -1);
        due("without(-1)", x.without(-1), -1);
        x.out(0, 1);
        due("without(1), 0 is OUT", x.without(1), 2);
        due("without(0), it is OUT already", x.without(0), 1);
        x.out(2, 1);
        due("without(1), none would be IN", x.without(1), -3);
        due("without(0), 1 would be IN", x.without(0), 1);
        // LINKS by the one that is away are away, too: 0 wins the cycle, without 1 it loses to 2.
        BallotWays cycle = fresh(3, "4:0>1>2;3:1>2>0;2:2>0>1");
        due("FIRST of a cycle", cycle.ranked(0), 0);
        due("without(1) of a cycle", cycle.without(1), 2);
    }

    private static void would() {
        promise = "29 would";
        BallotWays x = fresh(3, "5:0>1>2;3:1>2>0");
        due("1, once", would(x, "1", 1), 0);
        due("1, twice: by THE DRAW", would(x, "1", 2), 0);
        due("1, three times", would(x, "1", 3), 1);
        due("told(1)", x.told(1), 2);
        due("told(2)", x.told(2), 8);
        due("pair(1, 0)", x.pair(1, 0), 3);
        due("told(5)", x.told(5), 0);
        due("a million", would(x, "2", 1000000), 2);
        due("0", would(x, "2", 0), -2);
        due("THE TAPE stays", x.told(5), 1);
        due("a million and one", x.would(1000001), -2);
        due("-1", x.would(-1), -2);
        due("THE TAPE stays", x.told(5), 1);
        due("it is read then", x.would(9), 2);
        due("nothing", would(x, "", 1), -100);
        due("a fault", would(x, "1>1", 1), -102);
        due("told(5)", x.told(5), 0);
        due("BAD ahead of a fault", would(x, "a", 0), -2);
        due("told(5)", x.clear(), 1);
        BallotWays full = fresh(2, "1000000:0;999999:1");
        due("a COUNT above a million in thought", would(full, "1", 1000000), 1);
        due("ballot(1, 0)", full.ballot(1, 0), 999999);
    }

    private static void needs() {
        promise = "30 needs";
        BallotWays x = fresh(3, "5:0>1>2;3:1>2>0");
        due("needs(1)", needs(x, "1", 1), 3);
        due("needs(0), FIRST already", needs(x, "0", 0), 1);
        due("needs(0) by another one", needs(x, "1", 0), 1);
        due("needs(2)", needs(x, "2", 2), 8);
        due("needs(2) by another one", needs(x, "1", 2), -5);
        due("told(2)", x.told(2), 8);
        due("needs(3)", needs(x, "1", 3), -1);
        due("THE TAPE stays", x.told(5), 1);
        due("needs(-1)", x.needs(-1), -1);
        x.out(2, 1);
        due("needs(2), OUT", x.needs(2), -3);
        due("THE TAPE stays", x.told(5), 1);
        due("it is read then", x.needs(1), 3);
        due("told(5)", x.told(5), 0);
        due("a fault", needs(x, "1>", 1), -102);
        due("told(5)", x.told(5), 0);
        due("500", needs(fresh(2, "499:0"), "1", 1), 500);
        due("501", needs(fresh(2, "500:0"), "1", 1), -5);
        BallotWays tie = fresh(2, "500:0");
        tie.ahead(1);
        due("500, by THE DRAW", needs(tie, "1", 1), 500);
    }

    private static void turners() {
        promise = "31 turners";
        BallotWays x = fresh(2, "5:0;4:1");
        due("turners()", x.turners(), 0);
        x.ahead(1);
        due("turners(), a tie falls to 1", x.turners(), 1);
        due("told(2)", x.told(2), 9);
        BallotWays one = fresh(2, "1:1");
        due("a BALLOT of COUNT 1", one.turners(), 1);
        BallotWays two = fresh(3, "1:2;1:2>1;1:0>1>2;1:1>0>2");
        two.ahead(2);
        due("FIRST", two.ranked(0), 2);
        due("turners() of more", two.turners(), 3);
        due("turners() of none", fresh(8, "").turners(), 0);
        // 20 by 20, 0 is first by THE DRAW: each BALLOT with 0 ahead turns it.
        BallotWays many = fresh(8, "");
        for (int k = 0; k < 40; k++) {
            int third = 2 + k / 2 % 6;
            int fourth = 2 + (k / 2 + 1 + k / 12) % 6;
            ballots(many, "1:" + k % 2 + ">" + (1 - k % 2) + ">" + third + ">" + fourth);
        }
        due("told(1)", many.told(1), 40);
        due("turners() of 40", many.turners(), 0x5555555555L);
    }

    private static void agree() {
        promise = "32 agree";
        // 1 over 0 by 9 to 7, 0 over 2 by 7 to 6, 2 over 1 by 13 to 9: only by 3 is the last the weakest.
        BallotWays x = fresh(3, "7:0>2;9:1;6:2");
        int[] firsts = {2, 2, 2, 1};
        int[] agreeing = {7, 7, 7, 8};
        for (int rule = 0; rule < 4; rule++) {
            x.measure(rule);
            due("ranked(0) by " + rule, x.ranked(0), firsts[rule]);
            due("agree() by " + rule, x.agree(), agreeing[rule]);
            due("told(4)", x.told(4), rule);
        }
        due("agree(), none told", new BallotWays().agree(), 15);
        due("agree() of a strong one", fresh(3, "9:1;3:1;9:0").agree(), 15);
    }

    private static void flips() {
        promise = "33 flips";
        BallotWays x = fresh(2, "9:0;4:1");
        due("flips(0)", x.flips(0), 6);
        due("flips(1)", x.flips(1), -5);
        x.ahead(1);
        due("flips(0) by THE DRAW", x.flips(0), 5);
        due("told(2)", x.told(2), 13);
        due("flips(2)", x.flips(2), -1);
        due("flips(-1)", x.flips(-1), -1);
        due("500", fresh(2, "999:0;500:1").flips(0), 500);
        due("501", fresh(2, "1000:0;500:1").flips(0), -5);
        BallotWays all = fresh(2, "4:1");
        due("all of COUNT", all.flips(0), 4);
        all.ahead(1);
        due("not even all of COUNT", all.flips(0), -5);
    }

    private static void prove() {
        promise = "34 prove";
        BallotWays x = fresh(5, CYCLES);
        due("prove(0, 0, 4, 3), no LIST", x.prove(0, 0, 4, 3), -11);
        x.list(0, 40);
        x.list(3, 5);
        due("prove(4, 0, 4, 3)", x.prove(4, 0, 4, 3), -1);
        due("prove(-1, 0, 4, 3)", x.prove(-1, 0, 4, 3), -1);
        due("prove(0, 0, 5, 3)", x.prove(0, 0, 5, 3), -1);
        due("prove(0, 0, 4, -1)", x.prove(0, 0, 4, -1), -1);
        due("prove(0, 0, 3, 4), it doesn't beat", x.prove(0, 0, 3, 4), -3);
        due("prove(1, 0, 3, 4), ahead of NOTHING", x.prove(1, 0, 3, 4), -3);
        due("prove(0, 0, 4, 4), nor itself", x.prove(0, 0, 4, 4), -3);
        due("prove(0, 34, 0, 1)", x.prove(0, 34, 0, 1), 6);
        int[] row = {0, 4, 0, 3, 2, 1, x.barrier(1, 0)};
        for (int k = 0; k < 7; k++) {
            due("get(0, " + (33 + k) + ")", x.get(0, 33 + k), row[k]);
        }
        due("prove(0, 35, 0, 1)", x.prove(0, 35, 0, 1), -13);
        due("those with a place are there", x.get(0, 39), 1);
        due("get(0, 35)", x.get(0, 35), 4);
        due("prove(3, 1, 0, 1)", x.prove(3, 1, 0, 1), -13);
        due("get(3, 0)", x.get(3, 0), 0);
        due("get(3, 1)", x.get(3, 1), 4);
        due("get(3, 4)", x.get(3, 4), 2);
        x.list(3, 5);
        due("prove(3, -1, 0, 1)", x.prove(3, -1, 0, 1), -13);
        due("prove(3, LEAST, 0, 1)", x.prove(3, LEAST, 0, 1), -13);
        due("prove(3, GREATEST, 0, 1)", x.prove(3, GREATEST, 0, 1), -13);
        due("prove(3, 5, 0, 1)", x.prove(3, 5, 0, 1), -13);
        for (int k = 0; k < 5; k++) {
            due("none is laid, " + k, x.get(3, k), 0);
        }
        x.list(2, 0);
        due("prove(2, 0, 0, 1)", x.prove(2, 0, 0, 1), -13);
        x.out(2, 1);
        due("prove(0, 0, 2, 3), OUT", x.prove(0, 0, 2, 3), -3);
        due("prove(0, 0, 4, 2), OUT", x.prove(0, 0, 4, 2), -3);
    }

    private static BallotWays laid(long... row) {
        BallotWays x = fresh(6, "9:0>1>2>3>4>5;8:1>2>0>4>5>3;7:2>0>1>5>3>4");
        x.list(0, row.length + 1);
        for (int k = 0; k < row.length; k++) {
            x.set(0, k + 1, row[k]);
        }
        return x;
    }

    private static void proves() {
        promise = "35 proves";
        due("a proof", laid(2, 0, 3, 56).proves(0, 1, 0, 3), 1);
        due("a longer WAY", laid(3, 0, 1, 3, 56).proves(0, 1, 0, 3), 1);
        due("over another one", laid(2, 0, 3, 56).proves(0, 1, 0, 4), 0);
        due("of another one", laid(2, 0, 3, 56).proves(0, 1, 1, 3), 0);
        due("from p on", laid(2, 0, 3, 56).proves(0, 0, 0, 3), 0);
        due("p below 0", laid(2, 0, 3, 56).proves(0, -1, 0, 3), 0);
        due("p least", laid(2, 0, 3, 56).proves(0, LEAST, 0, 3), 0);
        due("p behind the end", laid(2, 0, 3, 56).proves(0, 5, 0, 3), 0);
        due("p greatest", laid(2, 0, 3, 56).proves(0, GREATEST, 0, 3), 0);
        due("it ends ahead of that", laid(2, 0, 3).proves(0, 1, 0, 3), 0);
        due("m 1", laid(1, 0, 56).proves(0, 1, 0, 3), 0);
        due("m 0", laid(0, 56).proves(0, 1, 0, 3), 0);
        due("m 9", laid(9, 0, 1, 2, 3, 4, 5, 0, 1, 3, 56).proves(0, 1, 0, 3), 0);
        due("m beyond an int", laid((1L << 32) + 2, 0, 3, 56).proves(0, 1, 0, 3), 0);
        due("i beyond an int", laid(2, 1L << 32, 3, 56).proves(0, 1, 0, 3), 0);
        due("a step beyond an int", laid(3, 0, (1L << 32) + 1, 3, 56).proves(0, 1, 0, 3), 0);
        due("a set beyond an int", laid(2, 0, 3, (1L << 32) + 56).proves(0, 1, 0, 3), 0);
        due("a set below 0", laid(2, 0, 3, -8).proves(0, 1, 0, 3), 0);
        due("a set without j", laid(2, 0, 3, 48).proves(0, 1, 0, 3), 0);
        due("a set with i", laid(2, 0, 3, 57).proves(0, 1, 0, 3), 0);
        due("all", laid(2, 0, 3, 63).proves(0, 1, 0, 3), 0);
        due("a seventh CANDIDATE", laid(2, 0, 3, 56 + 64).proves(0, 1, 0, 3), 0);
        due("weaker LINKS out of the set", laid(2, 0, 3, 8).proves(0, 1, 0, 3), 1);
        due("a step twice", laid(5, 0, 1, 2, 0, 3, 56).proves(0, 1, 0, 3), 0);
        due("no LINK", laid(3, 0, 2, 3, 56).proves(0, 1, 0, 3), 0);
        due("a step that is none", laid(3, 0, 6, 3, 56).proves(0, 1, 0, 3), 0);
        due("a step below 0", laid(3, 0, -1, 3, 56).proves(0, 1, 0, 3), 0);
        due("one over itself", laid(2, 0, 0, 56).proves(0, 1, 0, 0), 0);
        // 0 to 1 is 16, 1 to 2 is 17, 2 to 0 is 15, each of them to 3, 4, 5 is 24.
        due("2 to 0 goes out, weaker", laid(2, 0, 1, 62).proves(0, 1, 0, 1), 1);
        due("1 to 2 goes out, stronger", laid(2, 0, 1, 58).proves(0, 1, 0, 1), 0);
        due("0 to 4 goes out, as strong", laid(2, 2, 3, 9).proves(0, 1, 2, 3), 0);
        due("the weakest LINK counts", laid(3, 0, 1, 2, 60).proves(0, 1, 0, 2), 1);
        BallotWays x = laid(2, 0, 3, 56);
        due("proves(4, ..)", x.proves(4, 1, 0, 3), -1);
        due("proves(.., 6, 3)", x.proves(0, 1, 6, 3), -1);
        due("proves(.., 0, -1)", x.proves(0, 1, 0, -1), -1);
        due("NOTHING", x.proves(1, 1, 0, 3), -11);
        x.out(4, 1);
        due("one OUT in the set", x.proves(0, 1, 0, 3), 1);
        x.set(0, 4, 40);
        due("one OUT not in the set", x.proves(0, 1, 0, 3), 1);
        due("STATE", x.proves(0, 1, 0, 4), -3);
        due("STATE ahead of NOTHING", x.proves(1, 1, 4, 0), -3);
        BallotWays by = laid(3, 0, 4, 3, 56);
        by.out(4, 1);
        due("a WAY by one OUT", by.proves(0, 1, 0, 3), 0);
        BallotWays eight = fresh(8, "1:0>1>2>3>4>5>6>7");
        eight.list(3, 10);
        eight.set(3, 0, 8);
        for (int k = 0; k < 8; k++) {
            eight.set(3, 1 + k, k);
        }
        eight.set(3, 9, 128);
        due("m 8, to the end of the LIST", eight.proves(3, 0, 0, 7), 1);
        eight.set(3, 9, 255);
        due("m 8, all are in the set", eight.proves(3, 0, 0, 7), 0);
        eight.set(3, 9, 254);
        due("m 8, all but i are in the set", eight.proves(3, 0, 0, 7), 1);
    }

    private static void told() {
        promise = "36 told";
        BallotWays x = fresh(5, CYCLES);
        feed(x, "abc");
        x.spell(0);
        x.measure(1);
        int[] due = {5, 8, 45, 0, 1, 3, 7, 10, 10};
        for (int what = 0; what < 9; what++) {
            due("told(" + what + ")", x.told(what), due[what]);
        }
        x.out(0, 1);
        x.out(3, 1);
        due("told(3)", x.told(3), 9);
        due("told(7), three are IN", x.told(7), 3);
        due("told(8), three are IN", x.told(8), 3);
        due("told(9)", x.told(9), -1);
        due("told(-1)", x.told(-1), -1);
    }

    private static void lists() {
        promise = "37 list, 38 set, 39 get";
        BallotWays x = new BallotWays();
        for (int list = 0; list < 4; list++) {
            due("get(" + list + ", 0)", x.get(list, 0), NO);
            due("set(" + list + ", 0, 1)", x.set(list, 0, 1), -11);
            due("list(" + list + ", 40)", x.list(list, 40), 1);
            for (int i = 0; i < 40; i++) {
                due("set", x.set(list, i, 100L * list + i), 1);
            }
        }
        for (int list = 0; list < 4; list++) {
            for (int i = 0; i < 40; i++) {
                due("get(" + list + ", " + i + ")", x.get(list, i), 100L * list + i);
            }
        }
        due("list(4, 1)", x.list(4, 1), -1);
        due("list(-1, 1)", x.list(-1, 1), -1);
        due("list(0, 41)", x.list(0, 41), -2);
        due("list(0, -1)", x.list(0, -1), -14);
        due("list(4, 41)", x.list(4, 41), -1);
        due("it stays", x.get(0, 39), 39);
        due("list(1, 3)", x.list(1, 3), 1);
        due("all 0", x.get(1, 2), 0);
        due("get(1, 3)", x.get(1, 3), NO);
        due("get(1, -1)", x.get(1, -1), NO);
        due("get(1, GREATEST)", x.get(1, GREATEST), NO);
        due("get(4, 0)", x.get(4, 0), NO);
        due("get(-1, 0)", x.get(-1, 0), NO);
        due("set(1, 3, 9)", x.set(1, 3, 9), -13);
        due("set(1, -1, 9)", x.set(1, -1, 9), -13);
        due("set(4, 0, 9)", x.set(4, 0, 9), -1);
        due("set(-1, 0, 9)", x.set(-1, 0, 9), -1);
        due("set(1, 0, least)", x.set(1, 0, Long.MIN_VALUE), 1);
        due("set(1, 1, greatest)", x.set(1, 1, Long.MAX_VALUE), 1);
        due("get(1, 0)", x.get(1, 0), Long.MIN_VALUE);
        due("get(1, 1)", x.get(1, 1), Long.MAX_VALUE);
        due("list(2, 0)", x.list(2, 0), 1);
        due("set(2, 0, 1)", x.set(2, 0, 1), -13);
        due("get(2, 0)", x.get(2, 0), NO);
        due("list(1, 40)", x.list(1, 40), 1);
        due("all 0 again", x.get(1, 39) + x.get(1, 0), 0);
    }

    private static void imageAndUndo() {
        promise = "40 image, 41 undo";
        BallotWays x = fresh(4, "3:0>1;2:2");
        due("undo()", x.undo(), -3);
        x.out(3, 1);
        x.ahead(2);
        x.measure(3);
        due("image()", x.image(), 2);
        x.begin(7);
        x.measure(1);
        x.shuffle(3);
        tell(x, "1:6;1:5;1:4");
        x.spell(1);
        x.list(0, 1);
        x.set(0, 0, 8);
        feed(x, "1:2");
        due("undo()", x.undo(), 2);
        due("n", x.told(0), 4);
        due("COUNTS", x.told(2), 5);
        due("OUT", x.told(3), 8);
        due("MEASURE", x.told(4), 3);
        due("THE TAPE stays", x.told(5), 3);
        due("THE PAPER stays", x.told(6), 1);
        due("LISTS stay", x.get(0, 0), 8);
        due("drawn(0)", x.drawn(0), 2);
        due("drawn(1)", x.drawn(1), 0);
        due("pair(0, 1)", x.pair(0, 1), 3);
        due("ballot(1, 12)", x.ballot(1, 12), 0);
        due("ballots()", x.ballots(), 1);
        due("ballot(1, 0)", x.ballot(1, 0), 3);
        x.remove(0, 3);
        due("undo() again", x.undo(), 2);
        due("ballot(1, 0)", x.ballot(1, 0), 2);
        due("ballot(0, 0)", x.ballot(0, 0), 3);
        x.remove(0, 3);
        due("image() again", x.image(), 1);
        x.remove(0, 2);
        due("undo()", x.undo(), 1);
        due("ballot(0, 0)", x.ballot(0, 0), 2);
    }
}
