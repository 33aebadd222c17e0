/** Each promise's own words, and runs at the edges that they name. */
final class EdgesOfPromises {
    private final Document document;
    private final Runner runner;

    EdgesOfPromises(Document document, Runner runner) {
        this.document = document;
        this.runner = runner;
    }

    void all() {
        newObject();
        begin();
        out();
        measure();
        draw();
        tape();
        ballots();
        remove();
        ballot();
        find();
        paper();
        pairs();
        strength();
        way();
        barrierAndBeats();
        winnersAndRanks();
        smithAndClones();
        sum();
        without();
        would();
        needs();
        turnersAndAgree();
        flips();
        prove();
        proves();
        told();
        lists();
        imageAndUndo();
    }

    private void says(String words) {
        document.quote(words);
        runner.about(words);
    }

    private void run(String script) {
        runner.run(script);
    }

    private void newObject() {
        says("`BallotWays()`: Three CANDIDATES, no BALLOTS.");
        run("new told(0)=3 told(1)=0 told(2)=0 told(3)=0 told(4)=0 told(5)=0 told(6)=0 told(7)=0 told(8)=0 told(9)=-1 ballot(0,0)=-1");
        run("winners()=7 ranked(2)=2 ranked(3)=-1 turners()=0 agree()=15 undo()=-3 paper(0)=-1 get(0,0)=NO pair(2,0)=0 pair(3,0)=NO");
    }

    private void begin() {
        says("`int begin(int n)`: There are n CANDIDATES, all IN, no BALLOTS, THE DRAW by numbers "
                + "(MEASURE, THE TAPE, THE PAPER, LISTS, THE IMAGE stay): what n was. BAD.");
        run("new '3:0>1;1:2' ballots()=2 out(1,1)=0 ahead(2)=2 measure(3)=0 spell(0)=3 list(1,2)=1 set(1,1,6)=1 image()=2 '1:0'");
        run("begin(3)=3 told(0)=3 told(1)=0 told(2)=0 told(3)=0 told(4)=3 told(5)=3 paper='0>1' get(1,1)=6 drawn(0)=0 drawn(2)=2");
        run("pair(0,1)=0 pair(2,0)=0 ballot(0,0)=-1 winners()=7 undo()=2 told(3)=2 drawn(0)=2 pair(0,1)=3 ballots()=1 told(1)=3");
        run("begin(1)=-2 begin(9)=-2 told(1)=3 begin(2)=3 told(0)=2 drawn(1)=1 drawn(2)=-1 out(2,0)=-1 begin(8)=2 drawn(7)=7 begin(2)=8");
    }

    private void out() {
        says("`int out(int candidate, int is)`: A CANDIDATE is OUT (1), IN (0; it may be so already): what it was. "
                + "NONE: candidate, is; STATE: none would be IN then.");
        run("new out(0,0)=0 out(0,1)=0 out(0,1)=1 told(3)=1 out(0,0)=1 out(0,0)=0 told(3)=0 out(0,2)=-1 out(0,-1)=-1 out(0,MOST)=-1");
        run("out(3,1)=-1 out(-1,1)=-1 out(1,1)=0 out(2,1)=0 out(0,1)=-3 told(3)=6 out(1,1)=1 out(2,0)=1 out(0,1)=0 out(2,1)=-3 told(3)=3");
        run("begin(8)=3 out(0,1)=0 out(1,1)=0 out(2,1)=0 out(3,1)=0 out(4,1)=0 out(5,1)=0 out(6,1)=0 out(7,1)=-3 out(7,0)=0 told(3)=127 ranked(0)=7");
        run("ranked(1)=-1 winners()=128 smith()=128 clones(-1)=0 sum(7,0)=0 agree()=15 told(7)=0 told(8)=0");
    }

    private void measure() {
        says("`int measure(int measure)`: MEASURE: what it was. NONE.");
        run("new measure(0)=0 measure(3)=0 measure(3)=3 measure(4)=-1 measure(-1)=-1 measure(0)=3 begin(2)=3 measure(1)=0 begin(3)=2 told(4)=1");
    }

    private void draw() {
        says("`int ahead(int candidate)`: A CANDIDATE becomes the first of THE DRAW (the others stay in order): the place it had. NONE.");
        run("new begin(4)=3 ahead(0)=0 ahead(2)=2 drawn(0)=2 drawn(1)=0 drawn(2)=1 drawn(3)=3 ahead(3)=3 drawn(0)=3 drawn(1)=2 drawn(2)=0");
        run("drawn(3)=1 ahead(2)=1 drawn(0)=2 drawn(1)=3 drawn(2)=0 ahead(4)=-1 ahead(-1)=-1 out(0,1)=0 ahead(0)=2 drawn(0)=0 ranked(0)=2");
        says("`int shuffle(int seed)`: THE DRAW is SHUFFLED: its first.");
        run("new begin(6)=3 shuffle(7)=1 drawn(0)=1 drawn(1)=3 drawn(2)=4 drawn(3)=5 drawn(4)=2 drawn(5)=0 shuffle(7)=1 drawn(5)=0 shuffle(-1)=5");
        says("`int drawn(int k)`: The k-th of THE DRAW. NONE.");
        run("new drawn(0)=0 drawn(2)=2 drawn(3)=-1 drawn(-1)=-1 drawn(LEAST)=-1 drawn(MOST)=-1 begin(2)=3 drawn(1)=1 drawn(2)=-1 begin(8)=2");
        run("drawn(7)=7 drawn(8)=-1");
    }

    private void tape() {
        says("`int feed(int letter)`: A byte (1 .. 127) comes behind THE TAPE's: how many it has. BAD; FULL.");
        run("new feed(1)=1 feed(127)=2 feed(0)=-2 feed(128)=-2 feed(-1)=-2 feed(LEAST)=-2 feed(MOST)=-2 feed(304)=-2 told(5)=2 feed(49)=3");
        for (int k = 4; k <= 120; k++) {
            run("feed(" + k % 128 + ")=" + k);
        }
        run("feed(1)=-4 feed(0)=-2 told(5)=120 ballots()=-100 told(5)=0 feed(1)=1");
        says("`int clear()`: THE TAPE is empty then: how many bytes it had.");
        run("clear()=1 clear()=0 '1:0' clear()=3 ballots()=-100 told(1)=0");
    }

    private void ballots() {
        says("`int ballots()`: THE TAPE is BALLOTS: how many parts; -100 less the FAULT.");
        run("new '1:0' ballots()=1 '1:0;1:0;1:0' ballots()=3 told(1)=1 told(2)=4 '1:1;1:2' ballots()=2 told(1)=3 '' ballots()=-100 told(1)=3");
        run("out(1,1)=0 '1:1>0' ballots()=1 ballot(3,11)=0 '1:3' ballots()=-102 begin(4)=3 '1:3' ballots()=1 begin(2)=4 '1:2' ballots()=-102");
    }

    private void remove() {
        says("`int remove(int ballot, int c)`: c (1 or more) of a BALLOT go: how many of it are left (0: it is gone). "
                + "NONE: ballot; BAD: c (more than there are, too).");
        run("new remove(0,1)=-1 '5:0>1;6:1;7:2' ballots()=3 remove(0,6)=-2 remove(0,0)=-2 remove(0,-1)=-2 remove(0,LEAST)=-2 remove(0,MOST)=-2");
        run("remove(0,1)=4 remove(0,4)=0 told(1)=2 told(2)=13 remove(2,1)=-1 remove(-1,1)=-1 remove(3,0)=-1 pair(0,1)=0 pair(0,2)=0");
        run("remove(1,6)=1 remove(1,2)=-2 remove(1,1)=0 remove(1,1)=-1 remove(0,6)=0 remove(0,1)=-1 told(1)=0 pair(1,0)=0 pair(2,0)=0");
        run("'1000000:0' ballots()=1 remove(0,1000001)=-2 remove(0,999999)=1 remove(0,1)=0 '1000000:0' ballots()=1 remove(0,1000000)=0");
    }

    private void ballot() {
        says("`int ballot(int ballot, int what)`: Of a BALLOT what 0 COUNT, 1 how many PLACES, 10 .. 17 the PLACE of a CANDIDATE "
                + "(what less 10). NONE: ballot, what.");
        for (int n = 2; n <= 8; n++) {
            run("new begin(" + n + ")=3 '9:1' ballots()=1 ballot(1,0)=-1 ballot(-1,0)=-1 ballot(LEAST,0)=-1 ballot(MOST,0)=-1");
            for (int what = -3; what < 24; what++) {
                int place = what < 10 || what >= 10 + n ? -1 : what == 11 ? 0 : 1;
                run("ballot(0," + what + ")=" + (what == 0 ? 9 : what == 1 ? 2 : place));
            }
            // That less 10 wraps around.
            for (int what = 0; what < 20; what++) {
                run("ballot(0," + (Integer.MIN_VALUE + what) + ")=-1 ballot(0," + (Integer.MAX_VALUE - what) + ")=-1");
            }
        }
    }

    private void find() {
        says("`int find()`: THE TAPE is a RANKING: the BALLOT; -5: there is none; -100 less the FAULT.");
        run("new '0' find()=-5 '1:0>1>2;1:2=1' ballots()=2 '0>1' find()=0 '0>1>2' find()=0 '1=2' find()=1 '2=1>0' find()=1 '0>2' find()=-5");
        run("'0=1=2' find()=-5 '' find()=-100 '0;' find()=-101 '1:0' find()=-101 remove(0,1)=0 '0>1' find()=-5 '1=2' find()=0");
    }

    private void paper() {
        says("`int spell(int ballot)`: THE PAPER becomes a BALLOT's RANKING SPELLED: how many bytes. NONE.");
        run("new spell(0)=-1 '1:1=0' ballots()=1 spell(1)=-1 spell(-1)=-1 paper='' spell(0)=3 paper='0=1' spell(LEAST)=-1 spell(MOST)=-1 paper='0=1'");
        says("`int paper(int i)`: Byte i of THE PAPER. NONE.");
        run("paper(0)=48 paper(1)=61 paper(2)=49 paper(3)=-1 paper(-1)=-1 paper(LEAST)=-1 paper(MOST)=-1 remove(0,1)=0 paper(2)=49");
    }

    private void pairs() {
        says("`long pair(int i, int j)`: FOR i over j (IN or not). NO: such, the same.");
        run("new '3:0;1:1>2' ballots()=2 pair(0,1)=3 pair(1,0)=1 pair(1,2)=1 pair(2,1)=0 out(0,1)=0 out(1,1)=0 pair(0,1)=3 pair(1,0)=1");
        run("pair(0,0)=NO pair(0,3)=NO pair(3,0)=NO pair(-1,0)=NO pair(0,-1)=NO pair(LEAST,MOST)=NO pair(3,3)=NO");
        says("`int link(int i, int j)`: Whether there is a LINK from i to j: 1, 0. NONE: such, the same.");
        run("out(0,0)=1 link(0,1)=0 out(1,0)=1 link(0,1)=1 link(1,0)=0 link(1,1)=-1 link(0,3)=-1 link(-1,0)=-1 link(MOST,LEAST)=-1 link(3,3)=-1");
        run("'2:1' ballots()=1 pair(1,0)=3 link(0,1)=0 link(1,0)=0 '1:1' ballots()=1 link(1,0)=1 link(0,1)=0");
    }

    private void strength() {
        says("`long strength(int i, int j, int part)`: P of i to j: part 0, by MEASURES 0 FOR i over j of it, 1 the difference, "
                + "2 what is above the line, 3 FOR j over i; part 1: 1, by 2 what is below the line "
                + "(in lowest terms; 0: by 0, above FOR i over j). NO: such, the same, part; either is OUT; none.");
        run("new '6:0>1;4:1>0' ballots()=2 strength(0,1,0)=6 strength(0,1,1)=1 strength(0,2,0)=10 measure(1)=0 strength(0,1,0)=2");
        run("strength(0,1,1)=1 strength(0,2,0)=10 measure(3)=1 strength(0,1,0)=4 strength(0,1,1)=1 strength(0,2,0)=0 strength(0,2,1)=1");
        run("measure(2)=3 strength(0,1,0)=3 strength(0,1,1)=2 strength(0,2,0)=10 strength(0,2,1)=0 strength(1,0,0)=NO strength(1,0,1)=NO");
        run("strength(0,1,2)=NO strength(0,1,-1)=NO strength(0,1,MOST)=NO strength(0,0,0)=NO strength(0,3,0)=NO strength(-1,0,0)=NO");
        run("out(1,1)=0 strength(0,1,0)=NO strength(1,2,0)=NO strength(0,2,0)=10 out(1,0)=1 '2:1' ballots()=1 strength(0,1,0)=NO");
        // 1000000 by 500000 is 2 by 1; 999999 by 999998 has no lower terms.
        run("new measure(2)=0 '1000000:0;500000:1' ballots()=2 strength(0,1,0)=2 strength(0,1,1)=1 strength(1,2,0)=500000 strength(1,2,1)=0");
        run("new measure(2)=0 '999999:0;999998:1' ballots()=2 strength(0,1,0)=999999 strength(0,1,1)=999998");
    }

    private void way() {
        says("`int way(int i, int j, int k)`: THE WAY from i to j: how many CANDIDATES (k -1), the k-th (0: i). "
                + "NONE: such, the same, k below -1; STATE; -5: there is none; NONE: it has no k-th.");
        run("new '1:0>1' ballots()=1 way(0,1,-1)=2 way(0,1,0)=0 way(0,1,1)=1 way(0,1,2)=-1 way(0,1,-2)=-1 way(0,1,LEAST)=-1 way(0,1,MOST)=-1");
        run("way(1,0,-1)=-5 way(1,0,0)=-5 way(1,0,9)=-5 way(1,0,-2)=-1 way(1,1,-1)=-1 way(0,3,-1)=-1 way(3,0,-1)=-1 way(-1,0,-1)=-1");
        run("out(1,1)=0 way(0,1,-1)=-3 way(1,0,-1)=-3 way(0,1,2)=-3 way(0,1,-2)=-1 way(1,1,-1)=-1 way(0,2,-1)=2");
    }

    private void barrierAndBeats() {
        says("`int barrier(int i, int j)`: BARRIER from i to j. NONE: such, the same; STATE.");
        run("new '1:0>1' ballots()=1 barrier(0,1)=1 barrier(1,0)=6 barrier(2,0)=4 barrier(2,1)=4 barrier(0,0)=-1 barrier(0,3)=-1 barrier(3,0)=-1");
        run("barrier(-1,0)=-1 barrier(LEAST,MOST)=-1 out(2,1)=0 barrier(1,0)=2 barrier(2,0)=-3 barrier(0,2)=-3 barrier(2,2)=-1");
        says("`int beats(int i, int j)`: Whether i BEATS j: 1, 0. NONE: such, the same; STATE.");
        run("beats(0,1)=1 beats(1,0)=0 beats(0,2)=-3 beats(2,0)=-3 beats(2,2)=-1 beats(0,0)=-1 beats(0,3)=-1 beats(-1,0)=-1 beats(MOST,0)=-1");
        run("out(2,0)=1 beats(0,2)=1 begin(2)=3 beats(0,1)=0 beats(1,0)=0 beats(0,2)=-1");
    }

    private void winnersAndRanks() {
        says("`int winners()`: WINNERS (bits).");
        run("new winners()=7 '1:0=1' ballots()=1 winners()=3 out(0,1)=0 winners()=2 out(1,1)=0 winners()=4 begin(8)=3 winners()=255");
        says("`int ranked(int k)`: The k-th by RANKS (0: FIRST). NONE.");
        run("ranked(0)=0 ranked(7)=7 ranked(8)=-1 ranked(-1)=-1 ranked(LEAST)=-1 ranked(MOST)=-1 out(0,1)=0 ranked(0)=1 ranked(6)=7 ranked(7)=-1");
        says("`int rank(int candidate)`: Place by RANKS of a CANDIDATE. NONE; STATE.");
        run("rank(0)=-3 rank(1)=0 rank(7)=6 rank(8)=-1 rank(-1)=-1 rank(LEAST)=-1 ahead(7)=7 rank(7)=0 rank(1)=1 '1:5' ballots()=1 rank(5)=0 rank(7)=1");
    }

    private void smithAndClones() {
        says("`int smith()`: SMITH (bits).");
        run("new smith()=7 '1:2>0' ballots()=1 smith()=4 out(2,1)=0 smith()=1 '1:1' ballots()=1 smith()=3 '1:1' ballots()=1 smith()=2");
        says("`int clones(int k)`: How many CLONES (k -1), the k-th of them (bits). NONE: k.");
        run("new '1:0>1>2' ballots()=1 clones(-1)=2 clones(0)=3 clones(1)=6 clones(2)=-1 clones(-2)=-1 clones(MOST)=-1 clones(LEAST)=-1");
        run("'1:0>2>1' ballots()=1 clones(-1)=1 clones(0)=6 clones(1)=-1 '1:1>0>2' ballots()=1 clones(-1)=0 clones(0)=-1");
    }

    private void sum() {
        says("`long sum(int candidate, int what)`: SUM (what 0), LEADS (1). NO: such, what; it is OUT.");
        run("new '3:0>1;2:1=0' ballots()=2 sum(0,0)=8 sum(1,0)=5 sum(2,0)=0 sum(0,1)=3 sum(1,1)=0 sum(0,2)=NO sum(0,-1)=NO sum(3,0)=NO sum(-1,1)=NO");
        run("out(0,1)=0 sum(0,0)=NO sum(0,1)=NO sum(1,0)=5 sum(1,1)=5 sum(2,1)=0");
    }

    private void without() {
        says("`int without(int candidate)`: FIRST, were a CANDIDATE OUT. NONE; STATE: none would be IN.");
        run("new without(0)=1 without(1)=0 without(3)=-1 without(-1)=-1 without(LEAST)=-1 without(MOST)=-1 out(0,1)=0 without(1)=2 without(2)=1");
        run("out(1,1)=0 without(2)=-3 without(3)=-1 told(3)=3 without(0)=2 begin(2)=3 without(0)=1 without(1)=0 out(1,1)=0 without(0)=-3");
        // LINKS by it are away, too: 0 is FIRST by the cycle, without 1 it loses to 2.
        runner.linked(3, "0>1 8, 1>2 6, 2>0 4");
        run("ranked(0)=0 without(1)=2 without(2)=0 without(0)=1");
    }

    private void would() {
        says("`int would(int c)`: FIRST, were the RANKING on THE TAPE there c (1 .. 1000000) times more "
                + "(however many BALLOTS, COUNTS there are then); -100 less the FAULT. BAD: c (THE TAPE stays).");
        run("new begin(2)=3 '1000000:0' ballots()=1 '1' would(999999)=0 '1' would(1000000)=0 ahead(1)=1 '1' would(999999)=0 '1' would(1000000)=1");
        run("'1' would(0)=-2 would(-1)=-2 would(1000001)=-2 would(LEAST)=-2 would(MOST)=-2 told(5)=1 would(1)=0 told(5)=0 would(1)=-100");
        run("'0' would(1000000)=0 told(2)=1000000 told(1)=1 '1>' would(1)=-102 told(5)=0 '2' would(1)=-100 '1:1' would(1)=-101");
        runner.forty();
        run("'2' would(1)=0 '1' would(1)=1 '2' would(29)=0 '2' would(30)=2 told(1)=40 told(2)=40 '2>3' would(20)=0 '1>0' would(1000000)=1");
    }

    private void needs() {
        says("`int needs(int candidate)`: The least c (1 .. 500) by which that would make a CANDIDATE FIRST; -5: none; "
                + "-100 less the FAULT. NONE, STATE (THE TAPE stays behind these).");
        run("new begin(2)=3 '499:0' ballots()=1 '1' needs(1)=500 '1:0' ballots()=1 '1' needs(1)=-5 ahead(1)=1 '1' needs(1)=500");
        run("'1:0' ballots()=1 '1' needs(1)=-5 '1' needs(0)=1 '0' needs(0)=1 '0' needs(1)=-5 told(2)=501 '1' needs(2)=-1 needs(-1)=-1");
        run("needs(LEAST)=-1 needs(MOST)=-1 told(5)=1 out(0,1)=0 needs(0)=-3 told(5)=1 needs(1)=1 told(5)=0 needs(1)=-100 '1>' needs(1)=-102");
        run("told(5)=0 needs(0)=-3 needs(2)=-1");
    }

    private void turnersAndAgree() {
        says("`long turners()`: TURNERS (bits).");
        run("new turners()=0 '1:2;1:1' ballots()=2 ranked(0)=1 turners()=2 ahead(2)=2 turners()=1 '1:2' ballots()=1 turners()=0");
        says("`int agree()`: MEASURES (bits) by which FIRST is as by MEASURE.");
        // 1 to 0 by 9 to 7, 0 to 2 by 7 to 6, 2 to 1 by 13 to 9: the last is the weakest by 3 alone.
        run("new agree()=15 '7:0>2;9:1;6:2' ballots()=3 ranked(0)=2 agree()=7 measure(3)=0 ranked(0)=1 agree()=8 measure(2)=3 agree()=7");
        run("measure(1)=2 agree()=7 told(4)=1 out(0,1)=0 agree()=15");
    }

    private void flips() {
        says("`int flips(int ballot)`: The least c (1 .. 500, COUNT at most) by which, were COUNT of a BALLOT c less, "
                + "FIRST were another one; -5: there is none. NONE.");
        run("new begin(2)=3 flips(0)=-1 '500:0;1:1' ballots()=2 flips(0)=500 flips(1)=-5 '1:0' ballots()=1 flips(0)=-5 ahead(1)=1 flips(0)=500");
        run("'1:0' ballots()=1 flips(0)=-5 flips(2)=-1 flips(-1)=-1 flips(LEAST)=-1 flips(MOST)=-1 told(2)=503");
        run("begin(2)=2 '4:1' ballots()=1 flips(0)=4 told(1)=1 ahead(1)=1 flips(0)=-5 begin(2)=2 '2:0;1:1' ballots()=2 flips(0)=2");
        run("begin(2)=2 '1000000:0;999501:1' ballots()=2 flips(0)=500 '1:0' ballots()=-100 remove(1,1)=999500 flips(0)=-5 '1:1' ballots()=1 ahead(1)=1 flips(0)=499");
    }

    private void prove() {
        says("`int prove(int list, int p, int i, int j)`: A PROOF of i over j is laid into a LIST from place p on: how many numbers. "
                + "NONE: i, j, list; STATE: also if i doesn't beat j; NOTHING; "
                + "BEYOND: not all were (those that had a place are there all the same; none, if p is below 0).");
        run("new '1:0>1' ballots()=1 prove(0,0,0,1)=-11 list(0,4)=1 prove(0,0,0,1)=4 get(0,0)=2 get(0,1)=0 get(0,2)=1 get(0,3)=6");
        run("list(0,4)=1 prove(0,1,0,1)=-13 get(0,0)=0 get(0,1)=2 get(0,2)=0 get(0,3)=1 list(0,4)=1 prove(0,3,0,1)=-13 get(0,3)=2 get(0,2)=0");
        run("list(0,4)=1 set(0,0,5)=1 prove(0,-1,0,1)=-13 prove(0,-4,0,1)=-13 prove(0,LEAST,0,1)=-13 prove(0,MOST,0,1)=-13 prove(0,4,0,1)=-13");
        run("prove(0,2147483645,0,1)=-13 get(0,0)=5 get(0,1)=0 get(0,2)=0 get(0,3)=0 list(0,0)=1 prove(0,0,0,1)=-13 list(0,40)=1 prove(0,36,0,1)=4");
        run("get(0,39)=6 prove(0,37,0,1)=-13 get(0,39)=1 prove(4,0,0,1)=-1 prove(-1,0,0,1)=-1 prove(0,0,3,1)=-1 prove(0,0,0,-1)=-1");
        run("prove(0,0,1,0)=-3 prove(0,0,2,1)=-3 prove(1,0,1,0)=-3 out(2,1)=0 prove(0,0,0,2)=-3 prove(0,0,2,0)=-3 prove(1,0,0,1)=-11");
        run("prove(3,0,0,1)=-11 list(3,4)=1 prove(3,0,0,1)=4 get(3,3)=2");
    }

    private void proves() {
        says("`int proves(int list, int p, int i, int j)`: Whether a LIST from place p on PROVES i over j: 1, 0 "
                + "(also if it ends ahead of that, or p is below 0). NONE: i, j, list; STATE; NOTHING.");
        run("new '1:0>1' ballots()=1 proves(0,0,0,1)=-11 list(0,0)=1 proves(0,0,0,1)=0 list(0,4)=1 proves(0,0,0,1)=0 prove(0,0,0,1)=4");
        run("proves(0,0,0,1)=1 proves(0,1,0,1)=0 proves(0,3,0,1)=0 proves(0,4,0,1)=0 proves(0,-1,0,1)=0 proves(0,LEAST,0,1)=0 proves(0,MOST,0,1)=0");
        run("proves(0,2147483645,0,1)=0 proves(0,0,1,0)=0 proves(0,0,0,2)=0 proves(4,0,0,1)=-1 proves(-1,0,0,1)=-1 proves(0,0,3,1)=-1");
        run("proves(0,0,0,-1)=-1 proves(0,0,0,LEAST)=-1 out(1,1)=0 proves(0,0,0,1)=-3 proves(0,0,1,2)=-3 proves(1,0,0,1)=-3 proves(1,0,0,2)=-11");
        run("out(1,0)=1 list(0,3)=1 set(0,0,2)=1 set(0,2,1)=1 proves(0,0,0,1)=0 list(0,5)=1 prove(0,1,0,1)=4 proves(0,1,0,1)=1 proves(0,0,0,1)=0");
        run("list(0,40)=1 prove(0,36,0,1)=4 proves(0,36,0,1)=1 proves(0,35,0,1)=0 proves(0,37,0,1)=0 proves(0,39,0,1)=0 proves(0,40,0,1)=0");
    }

    private void told() {
        says("`int told(int what)`: What 0 n, 1 BALLOTS, 2 all COUNTS, 3 who is OUT (bits), 4 MEASURE, 5 bytes of THE TAPE, "
                + "6 of THE PAPER, 7 LINKS, 8 twos (i, j) of which i BEATS j. NONE.");
        run("new begin(4)=3 '3:0>1>2;2:3=1' ballots()=2 out(2,1)=0 measure(3)=0 spell(1)=3 '1:0>1' told(0)=4 told(1)=2 told(2)=5 told(3)=4");
        run("told(4)=3 told(5)=5 told(6)=3 told(7)=3 told(8)=3 told(9)=-1 told(-1)=-1 told(LEAST)=-1 told(MOST)=-1 out(2,0)=1 told(7)=6 told(8)=6");
        runner.linked(3, "0>1 4, 1>2 4, 2>0 4");
        run("told(7)=3 told(8)=0");
        run("new begin(8)=3 '1:0>1>2>3>4>5>6>7' ballots()=1 told(7)=28 told(8)=28 out(0,1)=0 told(7)=21 told(8)=21 told(3)=1");
        run("new begin(8)=3 '1000000:0;1000000:1;1000000:2;1000000:3;1000000:4;1000000:5;1000000:6;1000000:7' ballots()=8");
        run("'1000000:0>1;1000000:1>2;1000000:2>3;1000000:3>4;1000000:4>5;1000000:5>6;1000000:6>7;1000000:7>0' ballots()=8");
        run("told(1)=16 told(2)=16000000 pair(0,1)=3000000 pair(1,0)=2000000");
    }

    private void lists() {
        says("`int list(int list, int n)`: A LIST becomes a row of n longs, all 0: 1. NONE: list; BAD: n above 40; BELOW.");
        run("new list(0,0)=1 list(0,40)=1 get(0,39)=0 list(0,41)=-2 list(0,MOST)=-2 list(0,-1)=-14 list(0,LEAST)=-14 set(0,39,3)=1 get(0,39)=3");
        run("list(0,40)=1 get(0,39)=0 set(0,1,3)=1 list(0,2)=1 get(0,1)=0 list(0,1)=1 get(0,1)=NO list(4,2)=-1 list(-1,2)=-1 list(4,-1)=-1 list(4,41)=-1");
        says("`int set(int list, int i, long v)`: Place i of a LIST becomes v: 1. NONE; NOTHING; BEYOND.");
        run("set(0,0,LONGMOST)=1 get(0,0)=LONGMOST set(0,1,1)=-13 set(0,-1,1)=-13 set(1,0,1)=-11 set(1,-1,1)=-11 set(4,-1,1)=-1 set(-1,0,1)=-1");
        run("set(0,0,LONGLEAST)=1 get(0,0)=LONGLEAST list(3,40)=1 set(3,39,-1)=1 get(3,39)=-1 set(3,40,1)=-13 list(0,40)=1 get(0,39)=0 get(3,39)=-1");
        says("`long get(int list, int i)`: Place i of a LIST. NO: no such LIST, nothing there, no such place.");
        run("get(3,40)=NO get(3,-1)=NO get(3,LEAST)=NO get(3,MOST)=NO get(4,0)=NO get(-1,0)=NO get(LEAST,0)=NO get(MOST,0)=NO get(1,0)=NO get(3,0)=0");
    }

    private void imageAndUndo() {
        says("`int image()`: THE IMAGE is taken: how many BALLOTS.");
        run("new image()=0 '1:0;1:1' ballots()=2 undo()=0 told(1)=0 '1:0;1:1' ballots()=2 image()=2 remove(0,1)=0 image()=1 remove(0,1)=0 undo()=1");
        run("ballot(0,11)=0 begin(5)=3 undo()=1 told(0)=3 begin(5)=3 image()=0 begin(2)=5 undo()=0 told(0)=5");
        says("`int undo()`: All is as THE IMAGE: how many BALLOTS. STATE: there is none.");
        run("new undo()=-3 begin(8)=3 undo()=-3 told(0)=8 image()=0 '1:7' ballots()=1 out(0,1)=0 shuffle(1)=2 measure(2)=0 undo()=0 told(1)=0");
        run("told(3)=0 drawn(0)=0 drawn(7)=7 told(4)=0 pair(7,0)=0");
        runner.forty();
        run("image()=40 remove(39,1)=0 remove(0,1)=0 told(1)=38 undo()=40 told(1)=40 ballot(39,0)=1 pair(0,1)=20 pair(1,0)=20 turners()=733007751850");
    }
}
