import java.util.Random;
import java.util.TreeMap;

/** Runs of calls drawn by told seeds, each answer held against the Model's. */
public final class RandomRunsTest {
    private static final int RUNS = 3000;
    private static final int CALLS = 512;

    private final Check check;
    private final TreeMap<String, TreeMap<String, Integer>> seen;
    private final Random random;
    private final BallotWays x = new BallotWays();
    private final Model m = new Model();
    private final int most;
    private int calls = 0;
    private String run;

    private RandomRunsTest(int seed, Check check, TreeMap<String, TreeMap<String, Integer>> seen) {
        this.check = check;
        this.seen = seen;
        random = new Random(seed);
        most = seed % 5 == 0 ? 8 : 5;
        run = "run " + seed;
    }

    public static void main(String[] args) {
        Check check = new Check();
        TreeMap<String, TreeMap<String, Integer>> seen = new TreeMap<>();
        for (int seed = 1; seed <= RUNS; seed++) {
            RandomRunsTest one = new RandomRunsTest(seed, check, seen);
            one.start();
            while (one.calls < CALLS) {
                one.step();
            }
        }
        if (args.length > 0) {
            seen.forEach((call, kinds) -> System.out.println(call + " " + kinds));
        }
        check.end();
    }

    private void due(String call, long got, long want) {
        calls++;
        if (calls > CALLS) {
            return;
        }
        String name = call.substring(0, call.indexOf('('));
        String kind = want == Model.NO ? "NO" : want <= -100 ? "fault" : want < 0 ? "" + want : want == 0 ? "0" : "+";
        seen.computeIfAbsent(name, k -> new TreeMap<>()).merge(kind, 1, Integer::sum);
        check.due(run + " call " + calls + ": " + call, got, want);
    }

    private int candidate() {
        return random.nextInt(12) == 0 ? odd() : random.nextInt(m.world.n);
    }

    private int odd() {
        int[] odds = {-1, -2, m.world.n, m.world.n + 1, 8, 9, 31, 32, 64, Integer.MIN_VALUE, Integer.MAX_VALUE};
        return odds[random.nextInt(odds.length)];
    }

    private int near(int least, int behind) {
        return random.nextInt(10) == 0 ? odd() : least + random.nextInt(behind - least);
    }

    private int ballot() {
        return near(0, Math.max(1, m.world.votes.size()));
    }

    private String ranking() {
        StringBuilder text = new StringBuilder();
        int n = m.world.n;
        int many = 1 + random.nextInt(n);
        int met = 0;
        for (int k = 0; k < many; k++) {
            int c = random.nextInt(n);
            while ((met >> c & 1) == 1) {
                c = (c + 1) % n;
            }
            met |= 1 << c;
            text.append(k == 0 ? "" : random.nextInt(3) == 0 ? "=" : ">").append(c);
        }
        return spoiled(text.toString());
    }

    private String count() {
        switch (random.nextInt(40)) {
            case 0:
                return "0000012";
            case 1:
                return "1000000";
            case 2:
                return "1000001";
            case 3:
                return "999000";
            case 4:
                return "0";
            case 5:
                return "00000001";
            case 6:
                return "9999999";
            case 7:
                return "" + random.nextInt(100000);
            default:
                return "" + (1 + random.nextInt(random.nextInt(4) == 0 ? 90 : 9));
        }
    }

    /** Now and then one byte is another, gone, or twice. */
    private String spoiled(String text) {
        if (random.nextInt(25) != 0 || text.isEmpty()) {
            return text;
        }
        int at = random.nextInt(text.length());
        String signs = "0123456789>=;:, a";
        String sign = "" + signs.charAt(random.nextInt(signs.length()));
        int kind = random.nextInt(4);
        String middle = kind == 0 ? sign : kind == 1 ? "" : text.charAt(at) + sign;
        return kind == 3 ? text.substring(0, at) : text.substring(0, at) + middle + text.substring(at + 1);
    }

    private void feedText(String text) {
        for (int k = 0; k < text.length(); k++) {
            due("feed(" + (int) text.charAt(k) + ")", x.feed(text.charAt(k)), m.feed(text.charAt(k)));
        }
    }

    private String parts() {
        StringBuilder text = new StringBuilder();
        int many = 1 + random.nextInt(random.nextInt(3) == 0 ? 12 : 3);
        for (int k = 0; k < many; k++) {
            text.append(k == 0 ? "" : ";").append(spoiled(count())).append(":").append(ranking());
        }
        return spoiled(text.toString());
    }

    private void start() {
        int n = 2 + random.nextInt(most - 1);
        due("begin(" + n + ")", x.begin(n), m.begin(n));
        for (int k = 0; k < 2; k++) {
            feedText(parts());
            due("ballots() " + m.tape, x.ballots(), m.ballots());
        }
        for (int k = 0; k < 4; k++) {
            int size = random.nextInt(k == 0 ? 1 : 41);
            if (random.nextInt(4) != 0) {
                due("list(" + k + ", " + size + ")", x.list(k, size), m.list(k, size));
            }
        }
    }

    private void step() {
        if (random.nextInt(4) == 0) {
            tell();
        } else if (random.nextInt(3) != 0) {
            ask();
        } else if (random.nextInt(2) == 0) {
            think();
        } else {
            row();
        }
    }

    private void tell() {
        int a = candidate();
        int b = near(0, 2);
        switch (random.nextInt(20)) {
            case 0:
                if (random.nextInt(6) == 0) {
                    int n = near(2, most + 1);
                    n = n > most && n <= 8 ? most : n;
                    due("begin(" + n + ")", x.begin(n), m.begin(n));
                }
                break;
            case 1:
                due("out(" + a + ", " + b + ")", x.out(a, b), m.out(a, b));
                break;
            case 2:
                due("out(" + a + ", 0)", x.out(a, 0), m.out(a, 0));
                break;
            case 3:
                int rule = near(0, 4);
                due("measure(" + rule + ")", x.measure(rule), m.measure(rule));
                break;
            case 4:
                due("ahead(" + a + ")", x.ahead(a), m.ahead(a));
                break;
            case 5:
                int seed = random.nextInt();
                due("shuffle(" + seed + ")", x.shuffle(seed), m.shuffle(seed));
                break;
            case 6:
                due("drawn(" + a + ")", x.drawn(a), m.drawn(a));
                break;
            case 7:
                int letter = random.nextInt(3) == 0 ? 128 : random.nextInt(140) - 5;
                due("feed(" + letter + ")", x.feed(letter), m.feed(letter));
                break;
            case 8:
                due("clear()", x.clear(), m.clear());
                break;
            case 9:
                remove();
                break;
            case 10:
                due("image()", x.image(), m.image());
                break;
            case 11:
                if (random.nextInt(3) == 0) {
                    due("undo()", x.undo(), m.undo());
                }
                break;
            case 12:
                feedText(ranking());
                due("find() " + m.tape, x.find(), m.find());
                break;
            case 13:
            case 14:
                due("spell(0)", x.spell(0), m.spell(0));
                break;
            case 15:
            case 16:
                due("paper(1)", x.paper(1), m.paper(1));
                break;
            default:
                feedText(parts());
                due("ballots() " + m.tape, x.ballots(), m.ballots());
        }
    }

    private void remove() {
        int b = ballot();
        int had = Math.max(m.ballot(b, 0), 0);
        int c = random.nextInt(3) == 0 ? had : near(0, had + 2);
        due("remove(" + b + ", " + c + ")", x.remove(b, c), m.remove(b, c));
    }

    private void ask() {
        int i = candidate();
        int j = candidate();
        int k = near(-1, 5);
        switch (random.nextInt(16)) {
            case 0:
                due("pair(" + i + ", " + j + ")", x.pair(i, j), m.pair(i, j));
                break;
            case 1:
                due("link(" + i + ", " + j + ")", x.link(i, j), m.link(i, j));
                break;
            case 2:
                int part = near(0, 2);
                due("strength(" + i + ", " + j + ", " + part + ")", x.strength(i, j, part), m.strength(i, j, part));
                break;
            case 3:
                due("way(" + i + ", " + j + ", " + k + ")", x.way(i, j, k), m.way(i, j, k));
                break;
            case 4:
                due("barrier(" + i + ", " + j + ")", x.barrier(i, j), m.barrier(i, j));
                break;
            case 5:
                due("beats(" + i + ", " + j + ")", x.beats(i, j), m.beats(i, j));
                break;
            case 6:
                due("winners()", x.winners(), m.winners());
                break;
            case 7:
                due("ranked(" + k + ")", x.ranked(k), m.ranked(k));
                break;
            case 8:
                due("rank(" + i + ")", x.rank(i), m.rank(i));
                break;
            case 9:
                due("smith()", x.smith(), m.smith());
                break;
            case 10:
                due("clones(" + k + ")", x.clones(k), m.clones(k));
                break;
            case 11:
                int kind = near(0, 2);
                due("sum(" + i + ", " + kind + ")", x.sum(i, kind), m.sum(i, kind));
                break;
            case 12:
                int b = ballot();
                int what = near(0, 18);
                due("ballot(" + b + ", " + what + ")", x.ballot(b, what), m.ballot(b, what));
                break;
            case 13:
                int spelled = ballot();
                due("spell(" + spelled + ")", x.spell(spelled), m.spell(spelled));
                break;
            case 14:
                int at = near(0, 16);
                due("paper(" + at + ")", x.paper(at), m.paper(at));
                break;
            default:
                int about = near(0, 9);
                due("told(" + about + ")", x.told(about), m.told(about));
        }
    }

    private void think() {
        int a = candidate();
        switch (random.nextInt(most == 8 ? 5 : 7)) {
            case 0:
                due("without(" + a + ")", x.without(a), m.without(a));
                break;
            case 1:
            case 2:
                feedText(ranking());
                int c = random.nextInt(5) == 0 ? odd() : 1 + random.nextInt(random.nextBoolean() ? 9 : 1000000);
                due("would(" + c + ") " + m.tape, x.would(c), m.would(c));
                break;
            case 3:
                due("turners()", x.turners(), m.turners());
                break;
            case 4:
                due("agree()", x.agree(), m.agree());
                break;
            case 5:
                feedText(ranking());
                due("needs(" + a + ") " + m.tape, x.needs(a), m.needs(a));
                break;
            default:
                int b = ballot();
                due("flips(" + b + ")", x.flips(b), m.flips(b));
        }
    }

    private void row() {
        int list = near(0, 3);
        int p = random.nextInt(6) == 0 ? near(-2, 41) : random.nextInt(3);
        int i = candidate();
        int j = candidate();
        switch (random.nextInt(9)) {
            case 0:
                int n = random.nextInt(5) == 0 ? near(-2, 44) : random.nextInt(41);
                due("list(" + list + ", " + n + ")", x.list(list, n), m.list(list, n));
                break;
            case 1:
                long v = random.nextInt(8) == 0 ? random.nextLong() : random.nextInt(20) - 2;
                due("set(" + list + ", " + p + ", " + v + ")", x.set(list, p, v), m.set(list, p, v));
                break;
            case 2:
                due("get(" + list + ", " + p + ")", x.get(list, p), m.get(list, p));
                break;
            case 3:
                due("proves(" + list + ", " + p + ", " + i + ", " + j + ")",
                        x.proves(list, p, i, j), m.proves(list, p, i, j));
                break;
            default:
                proveAndSpoil(list, p, i, j);
        }
    }

    /** A PROOF, looked at whole, then with one number another or a bit more in its set. */
    private void proveAndSpoil(int list, int p, int i, int j) {
        String at = "(" + list + ", " + p + ", " + i + ", " + j + ")";
        int had = m.prove(list, p, i, j);
        due("prove" + at, x.prove(list, p, i, j), had);
        for (int k = p - 1; k < p + 6 && k >= 0; k++) {
            due("get(" + list + ", " + k + ")", x.get(list, k), m.get(list, k));
        }
        due("proves" + at, x.proves(list, p, i, j), m.proves(list, p, i, j));
        if (had > 0) {
            int place = p + (random.nextBoolean() ? had - 1 : random.nextInt(had));
            long v = random.nextInt(4) == 0 ? m.get(list, place) + (1L << 32) : m.get(list, place) ^ 1 << random.nextInt(9);
            due("set(" + list + ", " + place + ", " + v + ")", x.set(list, place, v), m.set(list, place, v));
            due("proves" + at, x.proves(list, p, i, j), m.proves(list, p, i, j));
        }
    }
}
