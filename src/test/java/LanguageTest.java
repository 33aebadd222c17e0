import java.io.IOException;
import java.lang.reflect.Field;
import java.lang.reflect.Method;
import java.lang.reflect.Modifier;
import java.nio.file.Files;
import java.nio.file.Path;
import java.util.ArrayList;
import java.util.Arrays;
import java.util.List;
import java.util.TreeSet;
import java.util.regex.Matcher;
import java.util.regex.Pattern;

/** The face of the class, and those rules of LANGUAGE.md that can be read off its text. */
public final class LanguageTest {
    private static final String SOURCE = "src/main/java/BallotWays.java";
    private static final String FACE = "int begin(int);int out(int,int);int measure(int);int ahead(int);"
            + "int shuffle(int);int drawn(int);int feed(int);int clear();int ballots();int remove(int,int);"
            + "int ballot(int,int);int find();int spell(int);int paper(int);long pair(int,int);int link(int,int);"
            + "long strength(int,int,int);int way(int,int,int);int barrier(int,int);int beats(int,int);"
            + "int winners();int ranked(int);int rank(int);int smith();int clones(int);long sum(int,int);"
            + "int without(int);int would(int);int needs(int);long turners();int agree();int flips(int);"
            + "int prove(int,int,int,int);int proves(int,int,int,int);int told(int);int list(int,int);"
            + "int set(int,int,long);long get(int,int);int image();int undo()";

    private static final Check CHECK = new Check();

    public static void main(String[] args) throws IOException {
        face();
        members();
        String text = bare(Files.readString(Path.of(SOURCE)));
        words(text);
        methods(text);
        CHECK.end();
    }

    private static void face() {
        TreeSet<String> found = new TreeSet<>();
        for (Method m : BallotWays.class.getDeclaredMethods()) {
            if (!Modifier.isPrivate(m.getModifiers()) && !m.isSynthetic()) {
                List<String> types = new ArrayList<>();
                Arrays.stream(m.getParameterTypes()).forEach(t -> types.add(t.getName()));
                found.add(m.getReturnType() + " " + m.getName() + "(" + String.join(",", types) + ")");
                CHECK.isTrue(m + " is public, not static", m.getModifiers() == Modifier.PUBLIC);
            }
        }
        CHECK.isTrue("the face is " + found, found.equals(new TreeSet<>(Arrays.asList(FACE.split(";")))));
        CHECK.isTrue("the class is final", Modifier.isFinal(BallotWays.class.getModifiers()));
        CHECK.due("constructors", BallotWays.class.getConstructors().length, 1);
        CHECK.due("NONE", BallotWays.NONE, -1);
        CHECK.due("BAD", BallotWays.BAD, -2);
        CHECK.due("STATE", BallotWays.STATE, -3);
        CHECK.due("FULL", BallotWays.FULL, -4);
        CHECK.due("NO", BallotWays.NO, Long.MIN_VALUE);
    }

    private static void members() {
        TreeSet<String> publics = new TreeSet<>();
        for (String one : FACE.split(";")) {
            publics.add(one.substring(one.indexOf(' ') + 1, one.indexOf('(')));
        }
        List<Class<?>> classes = new ArrayList<>(List.of(BallotWays.class.getDeclaredClasses()));
        CHECK.isTrue("twelve classes at most", classes.size() < 12);
        classes.add(BallotWays.class);
        for (Class<?> c : classes) {
            int fields = 0;
            for (Field f : c.getDeclaredFields()) {
                boolean constant = Modifier.isStatic(f.getModifiers());
                fields += constant ? 0 : 1;
                CHECK.isTrue(f + " is final", !constant || Modifier.isFinal(f.getModifiers()));
                boolean named = List.of("NONE", "BAD", "STATE", "FULL", "NO").contains(f.getName());
                CHECK.isTrue(f + " is private", named || Modifier.isPrivate(f.getModifiers()));
            }
            CHECK.isTrue(c + " has twenty fields at most", fields <= 20);
            for (Method m : c.getDeclaredMethods()) {
                boolean own = c != BallotWays.class || Modifier.isPrivate(m.getModifiers());
                CHECK.isTrue(m + " has no name of the face", !own || !publics.contains(m.getName()));
                CHECK.isTrue(m + " has seven parameters at most", m.getParameterCount() <= 7);
            }
        }
    }

    /** Without comments, and without what stands in texts and signs. */
    private static String bare(String text) {
        String code = text.replaceAll("(?s)/\\*.*?\\*/", "").replaceAll("//[^\n]*", "");
        return code.replaceAll("'.'", "' '").replaceAll("\"[^\"]*\"", "\"\"");
    }

    private static void words(String text) {
        String[] never = {"->", "::", "\\bthrow\\b", "\\btry\\b", "\\bcatch\\b", "\\bfinally\\b", "\\bsynchronized\\b",
            "\\bassert\\b", "\\bdouble\\b", "\\bfloat\\b", "\\bnative\\b", "\\bvar\\b", "Exact\\b", "static \\{",
            "\\bwhile\\b", "\\bpackage\\b", "\\bprotected\\b", "\"\"", "@"};
        for (String word : never) {
            CHECK.isTrue("no " + word, !Pattern.compile(word).matcher(text).find());
        }
        only(text, "\\bimport ([^;]*);", "java.util.Arrays");
        only(text, "\\bSystem\\.(\\w+)", "arraycopy");
        only(text, "\\bMath\\.(\\w+)", "max min floorDiv floorMod");
        only(text, "\\bInteger\\.(\\w+)", "bitCount");
        only(text, "\\bLong\\.(\\w+)", "MIN_VALUE MAX_VALUE");
        only(text, "\\bArrays\\.(\\w+)", "fill");
    }

    private static void only(String text, String pattern, String allowed) {
        Matcher m = Pattern.compile(pattern).matcher(text);
        while (m.find()) {
            String met = m.group(1);
            CHECK.isTrue(m.group(), met.equals("java.util.Arrays") || Arrays.asList(allowed.split(" ")).contains(met));
        }
    }

    /** Methods of sixty lines at most, and rows made by constructors alone. */
    private static void methods(String text) {
        String[] lines = text.split("\n");
        int from = -1;
        String head = "";
        String margin = "";
        for (int k = 0; k < lines.length; k++) {
            String line = lines[k];
            if (from < 0 && line.matches(" +[^=;]*\\) \\{") && !line.matches(" +(for|if|switch).*")) {
                from = k;
                head = line.trim();
                margin = line.substring(0, line.indexOf(head.charAt(0)));
            }
            boolean constructs = from >= 0 && head.matches("(public )?[A-Z]\\w*\\(.*");
            CHECK.isTrue("no object is made by line " + (k + 1), !line.contains("new ") || constructs);
            if (from >= 0 && line.equals(margin + "}")) {
                CHECK.isTrue(head + " is short", k - from < 60);
                from = -1;
            }
        }
    }
}
