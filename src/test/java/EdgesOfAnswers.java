/** The document's lines of Answers, and those of "More precisely" that no Term has. */
final class EdgesOfAnswers {
    /** Of 0, 1, 2 that are IN each BEATS all behind it; THE IMAGE is another one, THE TAPE has a part. */
    private static final String STATE = "new begin(4)=3 '3:0>1;2:2>3;4:1=3>2' ballots()=3 ahead(2)=2 measure(1)=0 image()=3 "
            + "out(3,1)=0 ahead(1)=2 measure(2)=1 '5:3>0' ballots()=1 spell(1)=3 list(0,5)=1 set(0,0,7)=1 set(0,4,9)=1 "
            + "list(2,3)=1 set(2,1,-7)=1 list(3,0)=1 '2:0=1' ";

    private static final String REFUSED = "begin(1)=-2 begin(9)=-2 begin(LEAST)=-2 out(4,1)=-1 out(-1,0)=-1 out(0,2)=-1 "
            + "out(0,-1)=-1 measure(4)=-1 measure(-1)=-1 ahead(4)=-1 ahead(-1)=-1 drawn(4)=-1 drawn(-1)=-1 feed(0)=-2 "
            + "feed(128)=-2 feed(-1)=-2 remove(4,1)=-1 remove(-1,1)=-1 remove(0,0)=-2 remove(0,4)=-2 remove(0,-1)=-2 "
            + "ballot(4,0)=-1 ballot(0,2)=-1 ballot(0,14)=-1 spell(4)=-1 spell(-1)=-1 paper(3)=-1 paper(-1)=-1 pair(0,0)=NO "
            + "pair(0,4)=NO link(0,0)=-1 link(0,4)=-1 strength(0,3,0)=NO strength(0,1,2)=NO strength(2,0,0)=NO way(0,0,-1)=-1 "
            + "way(0,1,-2)=-1 way(0,3,-1)=-3 way(2,0,-1)=-5 way(0,1,2)=-1 barrier(0,0)=-1 barrier(3,0)=-3 beats(0,4)=-1 "
            + "beats(0,3)=-3 ranked(3)=-1 ranked(-1)=-1 rank(4)=-1 rank(3)=-3 clones(-2)=-1 clones(99)=-1 sum(4,0)=NO "
            + "sum(3,0)=NO sum(0,2)=NO without(4)=-1 without(-1)=-1 would(0)=-2 would(1000001)=-2 would(-1)=-2 needs(4)=-1 "
            + "needs(3)=-3 flips(4)=-1 flips(-1)=-1 prove(4,0,0,1)=-1 prove(-1,0,0,1)=-1 prove(0,0,0,4)=-1 prove(0,0,3,0)=-3 "
            + "prove(0,0,1,0)=-3 prove(1,0,0,1)=-11 prove(0,-1,0,1)=-13 prove(0,-3,0,1)=-13 prove(0,5,0,1)=-13 "
            + "prove(0,MOST,0,1)=-13 prove(3,0,0,1)=-13 proves(4,0,0,1)=-1 proves(0,0,0,4)=-1 proves(0,0,3,0)=-3 "
            + "proves(1,0,0,1)=-11 told(9)=-1 told(-1)=-1 list(4,1)=-1 list(-1,1)=-1 list(0,41)=-2 list(0,-1)=-14 list(1,-1)=-14 "
            + "list(1,41)=-2 set(4,0,1)=-1 set(1,0,1)=-11 set(0,5,1)=-13 set(0,-1,1)=-13 set(3,0,1)=-13 get(4,0)=NO get(1,0)=NO "
            + "get(0,5)=NO";

    private static final String ASKED = "drawn(0)=1 ballot(0,0)=3 ballot(0,1)=3 ballot(0,13)=2 paper(0)=50 pair(0,1)=8 "
            + "pair(3,0)=11 link(0,1)=1 link(3,0)=0 strength(0,1,0)=2 strength(0,1,1)=1 way(0,1,-1)=2 way(0,1,1)=1 "
            + "barrier(1,0)=6 beats(0,1)=1 winners()=1 ranked(0)=0 ranked(2)=2 rank(1)=1 smith()=1 clones(-1)=0 sum(0,0)=16 "
            + "sum(0,1)=8 without(0)=1 without(3)=0 turners()=0 agree()=15 flips(0)=-5 flips(3)=4 proves(0,0,0,1)=0 told(0)=4 "
            + "told(1)=4 told(2)=14 told(3)=8 told(4)=2 told(5)=5 told(6)=3 told(7)=3 told(8)=3 get(0,0)=7 get(2,1)=-7";

    private final Document document;
    private final Runner runner;
    private final Runner twin;
    private final Check check;

    EdgesOfAnswers(Document document, Runner runner, Runner twin, Check check) {
        this.document = document;
        this.runner = runner;
        this.twin = twin;
        this.check = check;
    }

    void all() {
        noNumbers();
        badNumbers();
        states();
        theFirst();
        refusedChangesNothing();
        askedChangesNothing();
        fault();
        tapeIsEmpty();
        needsOne();
        sets();
        undoAgain();
    }

    private void says(String words) {
        document.quote(words);
        runner.about(words);
        twin.about(words);
    }

    private void run(String script) {
        runner.run(script);
    }

    private void noNumbers() {
        says("NONE (-1) no such number;");
        run(STATE + "ahead(4)=-1 ballot(4,0)=-1 told(9)=-1 list(4,1)=-1 set(4,0,0)=-1 spell(4)=-1 flips(4)=-1 clones(1)=-1");
    }

    private void badNumbers() {
        says("BAD (-2) a number is not as told;");
        run(STATE + "begin(1)=-2 feed(0)=-2 remove(0,0)=-2 remove(0,4)=-2 would(0)=-2 list(0,41)=-2");
    }

    private void states() {
        says("STATE (-3) as told (also where a CANDIDATE that is asked is OUT);");
        run(STATE + "way(3,0,-1)=-3 way(0,3,-1)=-3 barrier(3,0)=-3 barrier(0,3)=-3 beats(3,0)=-3 beats(0,3)=-3 rank(3)=-3 needs(3)=-3");
        run("prove(0,0,3,0)=-3 prove(0,0,0,3)=-3 prove(0,0,1,0)=-3 proves(0,0,3,0)=-3 proves(0,0,0,3)=-3");
        run("out(3,0)=1 rank(3)=0 beats(3,0)=1 beats(0,3)=0 barrier(0,3)=7 way(3,0,-1)=2 proves(0,0,0,3)=0 prove(0,0,3,0)=4");
        run("new undo()=-3 out(0,1)=0 out(1,1)=0 out(2,1)=-3 without(2)=-3 without(0)=2 rank(2)=0");
    }

    private void theFirst() {
        says("the first that a call's words name (-5 is told only where none of them is, but as told).");
        run("new out(0,1)=0 out(1,1)=0 out(3,1)=-1 out(2,2)=-1 out(2,1)=-3 without(3)=-1 without(2)=-3 rank(3)=-1 rank(0)=-3");
        run("way(0,0,-1)=-1 way(0,1,-2)=-1 way(0,3,9)=-1 way(0,2,9)=-3 way(2,0,-2)=-1 barrier(0,0)=-1 barrier(0,3)=-1 beats(1,1)=-1");
        run("begin(3)=3 way(0,1,9)=-5 way(0,1,-2)=-1 way(0,1,0)=-5 '1:0>1' ballots()=1 way(0,1,2)=-1 way(1,0,2)=-5 way(0,1,1)=1");
        run("remove(1,0)=-1 remove(0,0)=-2 ballot(1,99)=-1 list(4,41)=-1 list(4,-1)=-1 list(0,41)=-2 set(4,-1,0)=-1 set(0,-1,0)=-11");
        run("out(2,1)=0 prove(4,-1,2,0)=-1 prove(0,-1,2,3)=-1 prove(0,-1,2,0)=-3 prove(0,-1,1,0)=-3 prove(0,-1,0,1)=-11 list(0,0)=1");
        run("prove(0,-1,0,1)=-13 prove(0,-1,1,0)=-3 proves(4,-1,2,0)=-1 proves(1,-1,3,0)=-1 proves(1,-1,2,0)=-3 proves(1,-1,0,1)=-11");
        run("proves(0,-1,0,1)=0 proves(0,-1,0,2)=-3 'x' would(0)=-2 told(5)=1 needs(3)=-1 told(5)=1 needs(2)=-3 told(5)=1 needs(0)=-100");
        run("'x' find()=-100 '1' find()=-5 '1>' needs(0)=-102 '0' needs(1)=-5");
        StringBuilder full = new StringBuilder();
        for (int k = 0; k < 120; k++) {
            full.append('1');
        }
        run("new '" + full + "' feed(0)=-2 feed(128)=-2 feed(1)=-4");
    }

    /** Two objects are led the same way, the one is told a call more, the other one what stands for it. */
    private void same(String state, String call, String instead) {
        runner.run(state);
        twin.run(state);
        runner.run(call);
        twin.run(instead);
        boolean same = runner.whole().equals(twin.whole());
        check.due("all is as it would be by '" + instead + "' behind " + call, same ? 1 : 0, 1);
    }

    private void refusedChangesNothing() {
        says("What is answered so changes nothing (but LISTS by BEYOND, as told);");
        for (String call : REFUSED.split(" ")) {
            same(STATE, call, "");
        }
        same(STATE, "prove(0,3,0,1)=-13", "set(0,3,2)=1 set(0,4,0)=1");
        same(STATE, "prove(0,2,0,1)=-13", "set(0,2,2)=1 set(0,3,0)=1 set(0,4,1)=1");
        same(STATE, "prove(2,2,0,2)=-13", "set(2,2,3)=1");
        String one = STATE + "out(0,1)=0 out(1,1)=0 ";
        same(one, "out(2,1)=-3", "");
        same(one, "without(2)=-3", "");
        same("new begin(4)=3 '3:0>1;2:2' ballots()=2 '1:1' ", "undo()=-3", "");
        StringBuilder full = new StringBuilder("1:0");
        for (int k = 1; k < 30; k++) {
            full.append(";1:").append(k % 3);
        }
        same("new '" + full + ";' ", "feed(49)=-4", "");
        same("new '" + full + " ' ", "feed(0)=-2", "");
    }

    private void askedChangesNothing() {
        says("what is asked changes nothing but THE PAPER, LISTS that are told.");
        for (String call : ASKED.split(" ")) {
            same(STATE, call, "");
        }
        same(STATE, "spell(3)=3 spell(1)=3", "");
        same(STATE, "prove(0,0,0,1)=4", "set(0,0,2)=1 set(0,1,0)=1 set(0,2,1)=1 set(0,3,6)=1");
        same(STATE, "prove(0,1,0,1)=4", "set(0,1,2)=1 set(0,2,0)=1 set(0,3,1)=1 set(0,4,6)=1");
        same(STATE + "clear()=5 '2>3' ", "find()=1", "clear()=3");
        same(STATE + "clear()=5 '2>1' ", "find()=-5", "clear()=3");
        same(STATE + "clear()=5 '2>1' ", "would(99)=2", "clear()=3");
        same(STATE + "clear()=5 '2>1' ", "needs(1)=4", "clear()=3");
        same(STATE + "clear()=5 '2>1' ", "needs(2)=6", "clear()=3");
        same(STATE, "image()=4 undo()=4 image()=4", "image()=4");
    }

    private void fault() {
        says("-100 less the FAULT of a text;");
        same(STATE, "find()=-101", "clear()=5");
        same(STATE, "would(1)=-101", "clear()=5");
        same(STATE, "needs(0)=-101", "clear()=5");
        same(STATE + "';9:1;1:4' ", "ballots()=-112", "clear()=13");
        same(STATE + "';9:1;1000001:3' ", "ballots()=-110", "clear()=19");
        same(STATE + "';999998:0=1' ", "ballots()=2", "ballots()=2");
        same(STATE + "';999999:0=1' ", "ballots()=-106", "clear()=16");
        run("new '000000000' ballots()=-100");
        StringBuilder parts = new StringBuilder("1:0");
        for (int k = 1; k < 29; k++) {
            parts.append(";1:0");
        }
        run("new '" + parts + ";22:' ballots()=-219 '" + parts + ";1:0x' ballots()=-219 '" + parts + ";1:0>' ballots()=-220 told(1)=0");
    }

    private void tapeIsEmpty() {
        says("THE TAPE is empty behind each call that reads it.");
        run("new '1:0' ballots()=1 told(5)=0 'x' ballots()=-100 told(5)=0 '0' find()=0 told(5)=0 '1' find()=-5 told(5)=0");
        run("'0>' find()=-102 told(5)=0 '0' would(1)=0 told(5)=0 '0>' would(1)=-102 told(5)=0 '0' would(0)=-2 told(5)=1 needs(0)=1");
        run("told(5)=0 '0' needs(1)=-5 told(5)=0 '0>' needs(1)=-102 told(5)=0 '0' needs(3)=-1 told(5)=1 out(1,1)=0 needs(1)=-3 told(5)=1");
        run("spell(0)=1 told(5)=1 begin(3)=3 told(5)=1 find()=-5 told(5)=0 ballots()=-100 find()=-100 would(1)=-100 needs(0)=-100");
    }

    private void needsOne() {
        says("needs() tells 1 where the CANDIDATE is FIRST by one BALLOT more.");
        run("new begin(2)=3 '5:0;5:1' ballots()=2 '0' needs(0)=1 '1' needs(1)=1 '1' needs(0)=-5 '0' needs(1)=-5 '0=1' needs(0)=1");
        run("'0=1' needs(1)=-5 '1:0' ballots()=1 ranked(0)=0 '1' needs(0)=1 '1' needs(1)=2");
    }

    private void sets() {
        says("The set of proves() may have CANDIDATES that are OUT; a number beyond an int is none.");
        runner.linked(4, "0>1 6, 1>2 6, 2>0 4, 0>3 6");
        run("list(0,4)=1 set(0,0,2)=1 set(0,1,0)=1 set(0,2,1)=1 set(0,3,6)=1 proves(0,0,0,1)=1 out(3,1)=0 proves(0,0,0,1)=1");
        run("set(0,3,14)=1 proves(0,0,0,1)=1 set(0,3,22)=1 proves(0,0,0,1)=0 set(0,3,-10)=1 proves(0,0,0,1)=0");
        run("set(0,3,4294967302)=1 proves(0,0,0,1)=0 set(0,3,-4294967290)=1 proves(0,0,0,1)=0 set(0,3,6)=1 proves(0,0,0,1)=1");
        run("set(0,0,4294967298)=1 proves(0,0,0,1)=0 set(0,0,-4294967294)=1 proves(0,0,0,1)=0 set(0,0,2)=1 set(0,1,4294967296)=1");
        run("proves(0,0,0,1)=0 set(0,1,0)=1 set(0,2,4294967297)=1 proves(0,0,0,1)=0 set(0,2,-4294967295)=1 proves(0,0,0,1)=0");
        run("set(0,2,1)=1 proves(0,0,0,1)=1 out(2,1)=0 proves(0,0,0,1)=1 set(0,3,2)=1 proves(0,0,0,1)=1 set(0,3,LONGLEAST)=1 proves(0,0,0,1)=0");
        // A step in the middle, too, is none.
        runner.linked(4, "0>1 6, 1>2 6, 2>0 4, 0>3 6");
        run("list(0,5)=1 prove(0,0,0,2)=5 proves(0,0,0,2)=1 set(0,2,4294967297)=1 proves(0,0,0,2)=0 set(0,2,-4294967295)=1 proves(0,0,0,2)=0");
        run("set(0,2,4)=1 proves(0,0,0,2)=0 set(0,2,-1)=1 proves(0,0,0,2)=0 set(0,2,LONGMOST)=1 proves(0,0,0,2)=0 set(0,2,1)=1 proves(0,0,0,2)=1");
        runner.linked(4, "0>1 6, 1>2 6, 2>0 4, 0>3 6");
        run("list(0,4)=1 set(0,0,2)=1 set(0,2,1)=1 out(2,1)=0 set(0,3,2)=1");
        // The LINK out to 2 counts only while 2 is IN; so does that of 3 to 0 only while 3 is.
        run("proves(0,0,0,1)=1 out(2,0)=1 proves(0,0,0,1)=0");
        runner.linked(4, "0>1 4, 3>0 6");
        run("list(0,4)=1 prove(0,0,0,1)=4 proves(0,0,0,1)=1 set(0,3,10)=1 proves(0,0,0,1)=0 out(3,1)=0 proves(0,0,0,1)=1");
    }

    private void undoAgain() {
        says("undo() may be asked again.");
        run("new '3:0' ballots()=1 undo()=-3 image()=1 '1:1;1:2' ballots()=2 undo()=1 undo()=1 told(1)=1 begin(8)=3 undo()=1 told(0)=3");
        run("remove(0,3)=0 undo()=1 ballot(0,0)=3 remove(0,3)=0 image()=0 '1:1' ballots()=1 undo()=0 told(1)=0 undo()=0");
    }
}
