import java.lang.reflect.InvocationTargetException;
import java.lang.reflect.Method;
import java.util.HashMap;
import java.util.Map;
import java.util.regex.Matcher;
import java.util.regex.Pattern;

/**
 * Runs calls told as a text on one object at a time, and holds each answer against the one behind it:
 * <pre>new begin(4)=3 '2:0>1' ballots()=1 paper=''</pre>
 * new is a new object; what stands between quotes is fed byte by byte; paper= asks for all of THE PAPER.
 */
final class Runner {
    private static final int MOST_CALLS = 512;
    private static final Pattern STEP = Pattern.compile(
            "\\s*(?:(new)\\b|'([^']*)'|paper='([^']*)'|(\\w+)\\(([^)]*)\\)=(-?\\w+))\\s*");

    private final Check check;
    private final Map<String, Method> face = new HashMap<>();
    private BallotWays x = new BallotWays();
    private int calls = 0;
    private String about = "";

    Runner(Check check) {
        this.check = check;
        for (Method m : BallotWays.class.getMethods()) {
            if (m.getDeclaringClass() == BallotWays.class) {
                face.put(m.getName(), m);
            }
        }
    }

    void about(String text) {
        about = text;
    }

    void run(String script) {
        Matcher step = STEP.matcher(script);
        int from = 0;
        while (from < script.length()) {
            if (!step.find(from) || step.start() != from) {
                throw new IllegalArgumentException("not a step: " + script.substring(from));
            }
            from = step.end();
            if (step.group(1) != null) {
                x = new BallotWays();
                calls = 0;
            } else if (step.group(2) != null) {
                feed(step.group(2));
            } else if (step.group(3) != null) {
                String paper = paper();
                due("THE PAPER '" + paper + "'", paper.equals(step.group(3)) ? 1 : 0, 1);
            } else {
                String call = step.group(4) + "(" + step.group(5) + ")";
                due(call, ask(step.group(4), step.group(5)), number(step.group(6)));
            }
        }
    }

    private void due(String call, long got, long want) {
        check.due(about + " | " + call, got, want);
    }

    private void feed(String text) {
        for (int k = 0; k < text.length(); k++) {
            if (ask("feed", "" + (int) text.charAt(k)) < 1) {
                due("feeding " + text, 0, 1);
            }
        }
    }

    private String paper() {
        StringBuilder text = new StringBuilder();
        long length = ask("told", "6");
        for (int i = 0; i < length; i++) {
            text.append((char) ask("paper", "" + i));
        }
        return text.toString();
    }

    private long ask(String name, String told) {
        calls++;
        if (calls > MOST_CALLS) {
            throw new IllegalStateException("more calls than the document promises: " + about);
        }
        Method m = face.get(name);
        String[] parts = told.isEmpty() ? new String[0] : told.split(",");
        Class<?>[] types = m.getParameterTypes();
        Object[] values = new Object[parts.length];
        for (int k = 0; k < parts.length; k++) {
            long value = number(parts[k].trim());
            if (types[k] == long.class) {
                values[k] = value;
            } else {
                values[k] = (int) value;
            }
        }
        try {
            return ((Number) m.invoke(x, values)).longValue();
        } catch (InvocationTargetException e) {
            System.out.println(about + " | " + name + "(" + told + ") threw " + e.getCause());
            return 987654321987654321L;
        } catch (IllegalAccessException e) {
            throw new IllegalStateException(e);
        }
    }

    private static long number(String text) {
        switch (text) {
            case "NO":
            case "LONGLEAST":
                return Long.MIN_VALUE;
            case "LONGMOST":
                return Long.MAX_VALUE;
            case "LEAST":
                return Integer.MIN_VALUE;
            case "MOST":
                return Integer.MAX_VALUE;
            default:
                return Long.parseLong(text);
        }
    }

    /** The answers of all calls that ask, then those behind THE TAPE as BALLOTS, then those behind undo(). */
    String whole() {
        StringBuilder all = new StringBuilder();
        askAll(all);
        for (int list = 0; list < 4; list++) {
            for (int i = 0; i < 6; i++) {
                tell(all, "get", list + "," + i);
            }
        }
        for (int i = 0; i < 6; i++) {
            tell(all, "paper", "" + i);
        }
        tell(all, "ballots", "");
        askAll(all);
        tell(all, "undo", "");
        askAll(all);
        return all.toString();
    }

    private void askAll(StringBuilder all) {
        for (int what = 0; what < 9; what++) {
            tell(all, "told", "" + what);
        }
        for (int k = 0; k < 5; k++) {
            tell(all, "drawn", "" + k);
            for (int what : new int[] {0, 10, 11, 12, 13}) {
                tell(all, "ballot", k + "," + what);
            }
        }
        for (int two = 0; two < 16; two++) {
            tell(all, "pair", (two >> 2) + "," + (two & 3));
        }
    }

    private void tell(StringBuilder all, String name, String told) {
        all.append(name).append(told).append(' ').append(ask(name, told)).append(' ');
    }

    /**
     * A new object of n CANDIDATES with LINKS told as "0>1 2, 1>2 4": by MEASURE 1 each is so strong,
     * an even number, and between all others FOR is the same both ways. Two BALLOTS make a LINK.
     */
    void linked(int n, String links) {
        run("new begin(" + n + ")=3 measure(1)=0");
        for (String link : links.split(", ")) {
            int i = link.charAt(0) - '0';
            int j = link.charAt(2) - '0';
            int half = Integer.parseInt(link.substring(4)) / 2;
            StringBuilder others = new StringBuilder();
            for (int c = 0; c < n; c++) {
                if (c != i && c != j) {
                    others.append(others.length() == 0 ? "" : "=").append(c);
                }
            }
            run("'" + half + ":" + i + ">" + j + ";" + half + ":" + others + ">" + i + "' ballots()=2");
        }
    }

    /** A new object of eight with 40 BALLOTS of COUNT 1: 20 with 1 ahead of 0, and 0 ahead of 1 in turn. */
    void forty() {
        run("new begin(8)=3");
        String[] ends = {"", ">1", ">2", ">3", ">4", ">5", ">6", ">7", ">1>2", ">1>3", ">1>4", ">1>5", ">1>6", ">1>7",
            "=2>1", "=3>1", "=4>1", "=5>1", "=6>1", "=7>1"};
        for (String end : ends) {
            run("'1:1" + end.replace('1', '0') + ";1:0" + end + "' ballots()=2");
        }
    }
}
