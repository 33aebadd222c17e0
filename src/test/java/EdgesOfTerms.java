/** Each sentence of the document's Terms, and runs that end otherwise, were it broken. */
final class EdgesOfTerms {
    private final Document document;
    private final Runner runner;

    EdgesOfTerms(Document document, Runner runner) {
        this.document = document;
        this.runner = runner;
    }

    void all() {
        candidates();
        rankings();
        ballots();
        drawAndMeasure();
        blanks();
        textsOfRankings();
        spelled();
        textsOfBallots();
        counts();
        faults();
        faultsOfParts();
        faultsDoNothing();
        pairsAndLinks();
        strengths();
        strengthsByRatio();
        ways();
        theWay();
        barriers();
        beating();
        ranks();
        proofs();
        proving();
        smith();
        clones();
        turners();
        sums();
        shuffled();
        tapeAndPaper();
        lists();
        image();
    }

    private void says(String words) {
        document.quote(words);
        runner.about(words);
    }

    private void run(String script) {
        runner.run(script);
    }

    // ---- 1

    private void candidates() {
        says("CANDIDATES 0 .. n - 1, n 2 .. 8 (3 at first); each is IN (at first) or OUT.");
        run("new told(0)=3 told(3)=0 rank(2)=2 rank(3)=-1");
        run("begin(LEAST)=-2 begin(-1)=-2 begin(0)=-2 begin(1)=-2 begin(9)=-2 begin(10)=-2 begin(MOST)=-2 told(0)=3");
        run("begin(2)=3 told(0)=2 begin(8)=2 told(0)=8 told(3)=0 winners()=255 out(7,1)=0 told(3)=128 winners()=127");
        for (int n = 2; n <= 8; n++) {
            theLastOf(n);
            noneOf(n, "" + n);
            noneOf(n, "-1");
            noneOf(n, "8");
            noneOf(n, "32");
            noneOf(n, "LEAST");
            noneOf(n, "MOST");
        }
    }

    /** The last of n CANDIDATES is one in all calls. */
    private void theLastOf(int n) {
        int c = n - 1;
        run("new begin(" + n + ")=3 '1:" + c + "' ballots()=1 list(0,4)=1");
        run("out(" + c + ",0)=0 ahead(" + c + ")=" + c + " drawn(0)=" + c + " rank(" + c + ")=0 ranked(" + c + ")=" + (c - 1));
        run("without(" + c + ")=0 sum(" + c + ",0)=" + c + " sum(" + c + ",1)=1 ballot(0," + (10 + c) + ")=0");
        run("pair(" + c + ",0)=1 link(" + c + ",0)=1 strength(" + c + ",0,0)=1 way(" + c + ",0,-1)=2 way(" + c + ",0,0)=" + c);
        run("barrier(0," + c + ")=1 barrier(" + c + ",0)=" + (1 << c) + " beats(" + c + ",0)=1 beats(0," + c + ")=0");
        run("prove(0,0," + c + ",0)=4 get(0,0)=2 get(0,1)=" + c + " get(0,2)=0 get(0,3)=1 proves(0,0," + c + ",0)=1");
        run("'" + c + "' find()=0 '" + c + "' needs(" + c + ")=1 out(" + c + ",1)=0 told(3)=" + (1 << c));
    }

    private void noneOf(int n, String c) {
        run("new begin(" + n + ")=3 '1:0' ballots()=1 list(0,4)=1 out(" + c + ",0)=-1 out(" + c + ",1)=-1 told(3)=0");
        run("ahead(" + c + ")=-1 drawn(" + c + ")=-1 rank(" + c + ")=-1 ranked(" + c + ")=-1 without(" + c + ")=-1");
        run("needs(" + c + ")=-1 sum(" + c + ",0)=NO sum(" + c + ",1)=NO pair(" + c + ",0)=NO pair(0," + c + ")=NO");
        run("link(" + c + ",0)=-1 link(0," + c + ")=-1 strength(" + c + ",0,0)=NO strength(0," + c + ",0)=NO");
        run("way(" + c + ",0,-1)=-1 way(0," + c + ",-1)=-1 barrier(" + c + ",0)=-1 barrier(0," + c + ")=-1");
        run("beats(" + c + ",0)=-1 beats(0," + c + ")=-1 prove(0,0," + c + ",0)=-1 prove(0,0,0," + c + ")=-1");
        run("proves(0,0," + c + ",0)=-1 proves(0,0,0," + c + ")=-1");
        if (c.length() == 1) {
            run("ballot(0," + (10 + Integer.parseInt(c)) + ")=-1 '1:" + c + "' ballots()=-102 '" + c + "' find()=-100");
        }
    }

    private void rankings() {
        says("A RANKING has each CANDIDATE in a PLACE, 0 the best, 1 the next, .. (some may share one, none is skipped).");
        run("new begin(8)=3 '1:7>6>5>4>3>2>1>0;1:0=1=2=3=4=5=6=7;1:3=5>0=1=2' ballots()=3");
        run("ballot(0,1)=8 ballot(0,17)=0 ballot(0,16)=1 ballot(0,10)=7");
        run("ballot(1,1)=1 ballot(1,10)=0 ballot(1,17)=0");
        run("ballot(2,1)=3 ballot(2,13)=0 ballot(2,15)=0 ballot(2,10)=1 ballot(2,12)=1 ballot(2,14)=2 ballot(2,17)=2");
    }

    private void ballots() {
        says("BALLOTS: unlike RANKINGS, 40 at most, numbered as they come (0 the first; is one gone, later ones have 1 less), "
                + "each with a COUNT (1 .. 1000000).");
        run("new '1:0>1;2:0>1>2;4:1;8:1>2=0;16:0=1=2;32:2=0=1' ballots()=6 told(1)=3");
        run("ballot(0,0)=3 ballot(1,0)=12 ballot(2,0)=48 ballot(3,0)=-1 ballot(-1,0)=-1");
        runner.forty();
        run("told(1)=40 told(2)=40 ballot(39,0)=1 ballot(40,0)=-1 spell(39)=5 paper='0=7>1' spell(40)=-1 flips(40)=-1");
        run("'1:2' ballots()=-100 told(1)=40 remove(40,1)=-1 remove(39,1)=0 told(1)=39 '1:2' ballots()=1 told(1)=40");
        run("remove(0,1)=0 spell(0)=1 paper='0' spell(38)=1 paper='2' ballot(39,0)=-1 '1:3' ballots()=1 told(1)=40");
        run("new '1:0;2:1;3:2' ballots()=3 remove(1,2)=0 told(1)=2 ballot(0,0)=1 ballot(1,0)=3 ballot(1,12)=0");
        run("ballot(2,0)=-1 remove(0,1)=0 ballot(0,0)=3 ballot(0,12)=0 remove(0,3)=0 told(1)=0 ballot(0,0)=-1");
        run("'7:1' ballots()=1 ballot(0,0)=7 ballot(0,11)=0");
        run("new '0:0' ballots()=-100 '1:0' ballots()=1 '1000000:1' ballots()=1 '1000001:2' ballots()=-100");
        run("told(1)=2 told(2)=1000001 '1:1' ballots()=-100 '999999:0' ballots()=1 '1:0' ballots()=-100 told(2)=2000000");
    }

    private void drawAndMeasure() {
        says("THE DRAW: an order of all CANDIDATES (by numbers at first).");
        run("new drawn(0)=0 drawn(1)=1 drawn(2)=2 drawn(3)=-1 drawn(-1)=-1 begin(8)=3 drawn(7)=7 drawn(8)=-1");
        run("out(0,1)=0 drawn(0)=0 ahead(5)=5 out(5,1)=0 drawn(0)=5 drawn(1)=0 drawn(5)=4 drawn(6)=6 ranked(0)=1");
        says("MEASURE: 0 .. 3 (0 at first).");
        run("new told(4)=0 measure(LEAST)=-1 measure(-1)=-1 measure(4)=-1 measure(MOST)=-1 told(4)=0");
        run("measure(3)=0 told(4)=3 measure(2)=3 measure(1)=2 measure(0)=1 told(4)=0");
    }

    private void blanks() {
        says("A RANKING as a text (in all texts no blanks stand anywhere):");
        String parts = "1:0>1;2:1=2";
        for (int k = 0; k <= parts.length(); k++) {
            run("new '" + parts.substring(0, k) + " " + parts.substring(k) + "' ballots()=" + (-100 - k) + " told(1)=0");
        }
        String ranking = "0>1=2";
        for (int k = 0; k <= ranking.length(); k++) {
            String spaced = "'" + ranking.substring(0, k) + " " + ranking.substring(k) + "'";
            String fault = "()=" + (-100 - k) + " ";
            run("new " + spaced + " find" + fault + spaced + " would(1)=" + (-100 - k) + spaced + " needs(0)=" + (-100 - k));
        }
    }

    private void textsOfRankings() {
        says("CANDIDATES (1 figure each, none twice), one or more, with > or = between:");
        run("new '' find()=-100 '0' find()=-5 '00' find()=-101 '01' find()=-101 '0>01' find()=-102 '0>10' find()=-103 '2' find()=-5");
        run("'0>0' find()=-102 '0=0' find()=-102 '0>1=0' find()=-104 '0=1>1' find()=-104 '3' find()=-100 '0>3' find()=-102");
        run("'>' find()=-100 '=0' find()=-100 '0>' find()=-102 '0=' find()=-102 '0>>1' find()=-102 '0>=1' find()=-102");
        run("'0<1' find()=-101 '0,1' find()=-101 '0;1' find()=-101 '0:1' find()=-101 'a' find()=-100 '0>a' find()=-102");
        run("'/' find()=-100 ':' find()=-100 '0>1>2' find()=-5 '2=1=0' find()=-5 '0>1>2>' find()=-106 '0>1>2>0' find()=-106");
        run("new begin(8)=3 '7' find()=-5 '8' find()=-100 '9' find()=-100 '7>6>5>4>3>2>1>0' find()=-5");
        run("'7>6>5>4>3>2>1>0>' find()=-116 '7>6>5>4>3>2>1>7' find()=-114 '0=1=2=3=4=5=6=7=0' find()=-116");
        run("begin(2)=8 '1>0' find()=-5 '2' find()=-100 '0>1>2' find()=-104");
        says("the first is in PLACE 0, behind = the same PLACE, behind > the next; those that aren't told are together in the last one.");
        run("new begin(4)=3 '1:2;1:2=0;1:2>0;1:2=0>3;1:3>1>0>2;1:0=1=2' ballots()=6 ballot(0,1)=2 ballot(0,12)=0");
        run("ballot(0,10)=1 ballot(0,11)=1 ballot(0,13)=1 ballot(1,1)=2 ballot(1,10)=0 ballot(1,12)=0 ballot(1,11)=1");
        run("ballot(1,13)=1 ballot(2,1)=3 ballot(2,10)=1 ballot(2,11)=2 ballot(2,13)=2 ballot(3,1)=3 ballot(3,13)=1");
        run("ballot(3,11)=2 ballot(4,1)=4 ballot(4,12)=3 ballot(5,1)=2 ballot(5,13)=1");
        run("'3>1>0' find()=4 '2>1=0=3' find()=0 '2=1=0>3' find()=5 '0=1=2=3' find()=-5");
    }

    private void spelled() {
        says("SPELLED: PLACES in order with > between, in each CANDIDATES by numbers with = between; "
                + "without the last PLACE, if there are two or more.");
        run("new begin(4)=3 '1:3=2=1=0;1:3;1:3=1>2;1:3>2>1>0;1:2=0>3=1;1:2=1=0' ballots()=6");
        run("spell(0)=7 paper='0=1=2=3' spell(1)=1 paper='3' spell(2)=5 paper='1=3>2' spell(3)=5 paper='3>2>1'");
        run("spell(4)=3 paper='0=2' spell(5)=5 paper='0=1=2' spell(6)=-1 spell(-1)=-1 paper='0=1=2'");
        run("new begin(2)=3 '1:0=1;1:1' ballots()=2 spell(0)=3 paper='0=1' spell(1)=1 paper='1'");
        run("new begin(8)=3 '1:7=6=5=4=3=2=1=0;1:7>6>5>4>3>2>1>0' ballots()=2 spell(0)=15 paper='0=1=2=3=4=5=6=7'");
        run("paper(15)=-1 paper(14)=55 spell(1)=13 paper='7>6>5>4>3>2>1' paper(13)=-1");
    }

    private void textsOfBallots() {
        says("BALLOTS as a text: parts, one or more, parted by ; : COUNT (1 to 7 figures; seven at most are taken, "
                + "and looked at ahead of the byte behind), : , a RANKING.");
        run("new '' ballots()=-100 '1:0' ballots()=1 '1:0;1:1' ballots()=2 ';' ballots()=-100 ';1:0' ballots()=-100");
        run("'1:0;' ballots()=-104 '1:0;;1:1' ballots()=-104 '1:0,1:1' ballots()=-103 '1:0:1' ballots()=-103");
        run("'1' ballots()=-101 '1;' ballots()=-101 '1:' ballots()=-102 '1:;' ballots()=-102 ':0' ballots()=-100");
        run("'10' ballots()=-102 '1>0' ballots()=-101 '1::0' ballots()=-102 '1:0>' ballots()=-104 '1:0>;' ballots()=-104");
        run("'1:0;1' ballots()=-105 '1:0;1:' ballots()=-106 'x:0' ballots()=-100 '1x:0' ballots()=-101 '-1:0' ballots()=-100");
        run("told(1)=2 told(2)=3");
        // The most parts that THE TAPE has room for are 30.
        StringBuilder parts = new StringBuilder("1:0");
        for (int k = 1; k < 30; k++) {
            parts.append(";1:").append(k % 3);
        }
        run("new '" + parts + ";' told(5)=120 ballots()=-220 told(1)=0 '" + parts + "' told(5)=119 ballots()=30 told(2)=30");
        says("One that is there gets so many more.");
        run("new '1:0>1' ballots()=1 '5:0>1>2' ballots()=1 told(1)=1 ballot(0,0)=6 '2:1;3:1=0;4:1>0=2' ballots()=3");
        run("told(1)=3 ballot(1,0)=6 ballot(2,0)=3 '999994:0>1' ballots()=1 ballot(0,0)=1000000 pair(0,1)=1000000");
    }

    private void counts() {
        says("A COUNT of 1 to 7 figures that may not be is the FAULT where it begins, ahead of an eighth figure.");
        run("new '0' ballots()=-100 '00' ballots()=-100 '0000000' ballots()=-100 '00000000' ballots()=-100 '0x' ballots()=-100");
        run("'0000001:0' ballots()=1 '00000001:0' ballots()=-100 '00000010:0' ballots()=-107 '1000000:1' ballots()=1");
        run("'10000000:2' ballots()=-107 '1000001' ballots()=-100 '10000010:2' ballots()=-100 '9999999:2' ballots()=-100");
        run("'99999999:2' ballots()=-100 '1000001x' ballots()=-100 '1:2;0:2' ballots()=-104 '1:2;1000001:2' ballots()=-104");
        run("'1:2;00000001:2' ballots()=-104 '1:2;00000010:2' ballots()=-111 '0000000:2' ballots()=-100 '1000000' ballots()=-107 told(1)=2 told(2)=1000001");
    }

    private void faults() {
        says("FAULT of a text (the first that is met from the left): of a number that may not be "
                + "(a CANDIDATE told already, too), where it begins;");
        run("new '1:9;0:0' ballots()=-102 '0:9' ballots()=-100 '1:0>0>9' ballots()=-104 '1:0>9>0' ballots()=-104");
        run("'1:0;12:1=1;0:2' ballots()=-109 '1:0>1;0000:0' ballots()=-106 '0>1>1>' find()=-104 '0>4>1>a' find()=-102");
        says("otherwise the place (from 0) of the first byte with which no such text goes on; the length, if it ends too early.");
        run("'1:0>1;1:1x' ballots()=-109 '1:0>1;1:1' ballots()=2 '1:0>1;1:1>' ballots()=-110 '1:0>1;12' ballots()=-108");
        run("'1:0>1;' ballots()=-106 '0>1=' find()=-104 '0>1x=' find()=-103 '' find()=-100 '' would(1)=-100 '' needs(0)=-100");
        says("FAULTS are met from the left: of an earlier part ahead of what stands in a later one.");
        run("new '1000000:0' ballots()=1 '1:0;0:1' ballots()=-100 '1:0;1:1>' ballots()=-100 '1:1;1:0;x' ballots()=-104");
        run("'1:1>;1:0' ballots()=-104 '1:1;1:0x;0:0' ballots()=-104 told(1)=1");
    }

    private void faultsOfParts() {
        says("of a part (right otherwise) by which there would be a 41st BALLOT, or a COUNT above 1000000, where the part begins;");
        runner.forty();
        run("'1:2' ballots()=-100 '1:1;1:2;1:3' ballots()=-104 '1:2>' ballots()=-104 '1:2>2' ballots()=-104 '0:2' ballots()=-100");
        run("'1:1>0;1:1' ballots()=2 told(1)=40 told(2)=42 '999999:1' ballots()=-100 '999998:1' ballots()=1 told(2)=1000040");
        run("remove(0,1000000)=0 '1:2;1:3' ballots()=-104 told(1)=39 '1:2;1:2;1:1' ballots()=-108 '1:2;1:2' ballots()=2 told(1)=40");
        says("A part ends where its RANKING goes on no more; whether there is room is looked at then, ahead of the byte behind it.");
        run("'1:3x' ballots()=-100 '1:3:' ballots()=-100 '1:3;' ballots()=-100 '1:3>x' ballots()=-104 '1:30' ballots()=-100");
        run("'1:0x' ballots()=-103 '1:0;1:3,' ballots()=-104 '1000000:0x' ballots()=-100 '999999:0x' ballots()=-108");
        run("'999999:0;' ballots()=-109 '999999:0;1:0x' ballots()=-109 told(1)=40 told(2)=42");
    }

    private void faultsDoNothing() {
        says("A text with a FAULT does nothing.");
        run("new '3:0>1' ballots()=1 '5:0>1;1:2;x' ballots()=-110 told(1)=1 told(2)=3 ballot(0,0)=3 pair(2,0)=0 pair(0,1)=3");
        run("'1:2;1:1;1000001:0' ballots()=-108 told(1)=1 pair(2,0)=0 '999998:0>1' ballots()=-100 told(2)=3");
        run("'1>' would(1)=-102 '1>' needs(1)=-102 '1>' find()=-102 told(1)=1 told(2)=3 told(5)=0 ranked(0)=0");
    }

    // ---- 2

    private void pairsAndLinks() {
        says("FOR i over j: COUNTS of BALLOTS in which i is in a lesser PLACE than j, added up.");
        run("new pair(0,1)=0 '3:0=1;1000000:0>1;1000000:2>0' ballots()=3 pair(0,1)=2000000 pair(1,0)=0 pair(2,0)=1000000");
        run("pair(0,2)=1000003 pair(1,2)=1000003 pair(2,1)=1000000 pair(0,0)=NO out(0,1)=0 pair(0,1)=2000000");
        runner.forty();
        run("told(2)=40 pair(0,1)=20 pair(1,0)=20 '999999:0' ballots()=1 pair(0,1)=1000019 pair(1,0)=20");
        says("A LINK from i to j (unlike, both IN): FOR i over j is more than FOR j over i.");
        run("new '5:0;5:1' ballots()=2 link(0,1)=0 link(1,0)=0 link(0,2)=1 link(2,0)=0 link(0,0)=-1 told(7)=2");
        run("'1:0' ballots()=1 link(0,1)=1 link(1,0)=0 told(7)=3 out(1,1)=0 link(0,1)=0 link(1,0)=0 link(1,2)=0 told(7)=1");
    }

    private void strengths() {
        says("Its STRENGTH by MEASURES: 0 FOR i over j, the more the stronger; 1 that less FOR j over i, the more the stronger;");
        run("new '1:0>1=2;5:1>2=0;6:0=2>1' ballots()=3 pair(0,1)=7 pair(1,0)=5 pair(1,2)=5 pair(2,1)=6 pair(0,2)=1 pair(2,0)=0");
        run("strength(0,1,0)=7 strength(2,1,0)=6 strength(0,2,0)=1 strength(1,2,0)=NO strength(0,1,1)=1 barrier(0,2)=3 barrier(0,1)=1");
        run("measure(1)=0 strength(0,1,0)=2 strength(2,1,0)=1 strength(0,2,0)=1 strength(0,1,1)=1 barrier(0,2)=3");
        // 0 to 1 by 7 to 6, 0 to 2 by 5 to 0, 1 to 2 by 6 to 2: which is the stronger turns with MEASURE.
        run("new '5:0>1=2;2:0=2>1;6:1>0=2' ballots()=3 pair(0,1)=7 pair(1,0)=6 pair(0,2)=5 pair(2,0)=0 pair(1,2)=6 pair(2,1)=2");
        run("strength(0,2,0)=6 barrier(0,2)=3 barrier(0,1)=1 measure(1)=0 strength(0,2,0)=5 strength(0,1,0)=1 barrier(0,2)=1 barrier(0,1)=5");
        run("measure(2)=1 strength(0,2,0)=5 strength(0,2,1)=0 strength(0,1,0)=7 strength(0,1,1)=6 barrier(0,2)=1 barrier(0,1)=5");
        says("3 FOR j over i, the less the stronger.");
        run("measure(3)=2 strength(0,2,0)=0 strength(0,1,0)=6 barrier(0,2)=1 barrier(0,1)=5");
        run("new '1:0>1=2;5:1>2=0;6:0=2>1' ballots()=3 measure(1)=0");
        run("measure(3)=1 strength(0,1,0)=5 strength(0,1,1)=1 strength(2,1,0)=5 strength(0,2,0)=0 barrier(0,2)=1 barrier(0,1)=5");
        // 0 to 1 by 12 to 4, 1 to 2 by 12 to 6, 2 to 3 by 8 to 4, 3 to 0 by 8 to 6.
        runner.linked(4, "0>1 8, 1>2 6, 2>3 4, 3>0 2");
        run("strength(0,3,0)=4 strength(1,0,0)=2 measure(3)=1 strength(0,1,0)=4 strength(1,2,0)=6 strength(2,3,0)=4 strength(3,0,0)=6");
        run("strength(0,3,0)=6 strength(1,3,0)=6 strength(2,0,0)=6 barrier(2,1)=12 barrier(0,2)=3 beats(0,1)=1 beats(2,1)=0 beats(1,2)=0");
    }

    private void strengthsByRatio() {
        says("2 FOR i over j by FOR j over i, a fraction, the greater the stronger; by 0: stronger than all that aren't, "
                + "of two such that with more FOR;");
        // 0 to 1 by 1 to 0, 0 to 2 by 1000001 to 1.
        run("new measure(2)=0 '1:0>1=2;1000000:0=1>2;1:2>0=1' ballots()=3 pair(0,1)=1 pair(1,0)=0 pair(0,2)=1000001 pair(2,0)=1");
        run("strength(0,2,0)=1000001 strength(0,2,1)=1 strength(0,1,0)=1 strength(0,1,1)=0 barrier(0,2)=3 barrier(0,1)=1");
        // As fractions 2 by 1 and 4 by 2 are as strong.
        run("new measure(2)=0 '2:0>1=2;2:0=1>2;1:1=2>0;1:2>0=1' ballots()=4 pair(0,1)=2 pair(1,0)=1 pair(0,2)=4 pair(2,0)=2");
        run("strength(0,1,0)=2 strength(0,1,1)=1 strength(0,2,0)=2 strength(0,2,1)=1 barrier(0,1)=1 barrier(0,2)=1 way(0,2,-1)=2");
        // Of two by 0 that with more FOR: 0 to 1 by 2 to 0, 0 to 2 by 1 to 0.
        run("new measure(2)=0 '1:0>1=2;1:0=2>1' ballots()=2 strength(0,1,0)=2 strength(0,1,1)=0 strength(0,2,0)=1 strength(0,2,1)=0");
        run("barrier(0,2)=3 barrier(0,1)=1 strength(2,1,0)=1 strength(1,2,0)=NO strength(1,2,1)=NO");
        // Fractions of numbers near a million that differ least: 999999 / 999998 and 1000000 / 999999.
        run("new begin(4)=3 measure(2)=0 '999999:0=2>1=3;999998:1=3>0=2;1:2>0=1>3;1:0>3>2>1' ballots()=4");
        run("pair(2,3)=1000000 pair(3,2)=999999 pair(0,1)=1000000 pair(1,0)=999998 strength(2,3,0)=1000000 strength(2,3,1)=999999");
        run("strength(0,1,0)=500000 strength(0,1,1)=499999");
        // 930446 by 310162 is less than 930461 by 310167, by two parts of a thousand millions.
        run("new measure(2)=0 '930431:0>1=2;310143:1=2>0;30:0=1>2;15:0=2>1;19:1>0=2;24:2>0=1' ballots()=6 pair(0,1)=930446");
        run("pair(1,0)=310162 pair(0,2)=930461 pair(2,0)=310167 barrier(0,1)=5 barrier(0,2)=1");
        run("new measure(2)=0 '930431:0>1=2;310143:1=2>0;15:0=1>2;30:0=2>1;24:1>0=2;19:2>0=1' ballots()=6 pair(0,2)=930446");
        run("pair(2,0)=310162 pair(0,1)=930461 pair(1,0)=310167 barrier(0,2)=3 barrier(0,1)=1");
        closeFractions("1:0=1>2;1:2>0=1", 251, 249);
        closeFractions("1:0=2>1;1:1>0=2", 249, 253);
    }

    /** 0 to 1 and 0 to 2 by 10000000 to 9999999 each, but one of them by 1 more both ways: it is weaker. To all others it is stronger. */
    private void closeFractions(String more, int barrierTo2, int barrierTo1) {
        run("new begin(8)=3 measure(2)=0 '" + more + "' ballots()=2");
        for (int c = 3; c < 8; c++) {
            String less = c == 3 ? "999999" : "1000000";
            run("'1000000:0>" + c + ";1000000:0=" + c + ";" + less + ":1=2>" + c + ";1000000:1=2=" + c + "' ballots()=4");
        }
        boolean second = barrierTo2 == 251;
        run("pair(0,1)=" + (second ? 10000000 : 10000001) + " pair(1,0)=" + (second ? 9999999 : 10000000));
        run("pair(0,2)=" + (second ? 10000001 : 10000000) + " pair(2,0)=" + (second ? 10000000 : 9999999));
        run("link(1,2)=0 link(2,1)=0 barrier(0,1)=" + barrierTo1 + " barrier(0,2)=" + barrierTo2);
        run("strength(0,1,0)=" + (second ? 10000000 : 10000001) + " strength(0,1,1)=" + (second ? 9999999 : 10000000));
    }

    private void ways() {
        says("A WAY from i to j (unlike): CANDIDATES, none twice, from i to j, with a LINK from each to the next; "
                + "as strong as its weakest LINK.");
        runner.linked(4, "0>1 6, 1>2 2, 2>3 4");
        run("strength(0,3,0)=2 strength(2,3,0)=4 strength(0,2,0)=2 strength(1,3,0)=2 way(0,3,-1)=4 way(0,3,0)=0 way(0,3,1)=1");
        run("way(0,3,2)=2 way(0,3,3)=3 way(0,3,4)=-1 way(0,0,-1)=-1 way(0,0,0)=-1 strength(0,0,0)=NO way(3,0,-1)=-5 way(3,0,0)=-5");
        runner.linked(8, "0>1 2, 1>2 2, 2>3 2, 3>4 2, 4>5 2, 5>6 2, 6>7 2");
        run("told(7)=7 told(8)=28 way(0,7,-1)=8 way(0,7,0)=0 way(0,7,1)=1 way(0,7,6)=6 way(0,7,7)=7 way(0,7,8)=-1 way(0,7,MOST)=-1");
        run("way(0,7,-2)=-1 way(7,0,-1)=-5 strength(0,7,0)=2 strength(7,0,0)=NO out(3,1)=0 way(0,7,-1)=-5 way(0,2,-1)=3 way(4,7,-1)=4");
        // LINKS of the least STRENGTH that there is make WAYS, too.
        run("new '1:0>1>2;1:1>2>0;1:2>0>1' ballots()=3 measure(1)=0 strength(0,1,0)=1 strength(0,2,0)=1 way(0,2,-1)=3 way(0,2,1)=1");
        run("way(1,0,-1)=3 way(2,1,-1)=3 told(7)=3 told(8)=0 winners()=7 measure(0)=1 strength(0,2,0)=2 measure(3)=0 strength(0,2,0)=1");
        says("P of i to j: the STRENGTH of the strongest WAY (none: there is no WAY).");
        runner.linked(4, "0>1 6, 1>3 2, 0>2 4, 2>3 4");
        run("strength(0,3,0)=4 strength(3,0,0)=NO strength(3,0,1)=NO strength(1,2,0)=NO strength(1,3,0)=2 out(2,1)=0 strength(0,3,0)=2");
        runner.linked(4, "0>3 2, 0>1 6, 1>2 6, 2>3 6");
        run("strength(0,3,0)=6 way(0,3,-1)=4 out(1,1)=0 strength(0,3,0)=2 way(0,3,-1)=2");
        run("new begin(2)=3 strength(0,1,0)=NO way(0,1,-1)=-5 '1:0=1' ballots()=1 strength(0,1,0)=NO way(1,0,-1)=-5 told(7)=0");
    }

    private void theWay() {
        says("THE WAY: of all that are so strong that with the fewest LINKS, of several the least CANDIDATE behind i, "
                + "then the next, and so on.");
        runner.linked(4, "0>3 4, 0>1 6, 1>3 4");
        run("strength(0,3,0)=4 way(0,3,-1)=2 way(0,3,1)=3 way(0,3,2)=-1");
        runner.linked(4, "0>3 2, 0>1 6, 1>3 4");
        run("strength(0,3,0)=4 way(0,3,-1)=3 way(0,3,1)=1 way(0,3,2)=3");
        runner.linked(4, "0>2 4, 2>3 6, 0>1 6, 1>3 4");
        run("strength(0,3,0)=4 way(0,3,-1)=3 way(0,3,1)=1");
        runner.linked(4, "0>2 4, 2>3 4, 0>1 6, 1>3 2");
        run("strength(0,3,0)=4 way(0,3,-1)=3 way(0,3,1)=2");
        runner.linked(5, "0>1 2, 1>3 2, 1>2 2, 3>4 2, 2>4 2");
        run("way(0,4,-1)=4 way(0,4,1)=1 way(0,4,2)=2 way(0,4,3)=4 out(2,1)=0 way(0,4,-1)=4 way(0,4,2)=3");
        // The least behind i leads to a greater one behind it: 0, 1, 4, 5 is taken, not 0, 2, 3, 5.
        runner.linked(6, "0>1 2, 0>2 2, 1>4 2, 2>3 2, 4>5 2, 3>5 2");
        run("way(0,5,-1)=4 way(0,5,1)=1 way(0,5,2)=4 way(0,5,3)=5");
        // The least behind i is on no WAY with so few LINKS.
        runner.linked(5, "0>1 2, 1>2 2, 2>4 2, 0>3 2, 3>4 2");
        run("way(0,4,-1)=3 way(0,4,1)=3 way(0,4,2)=4");
    }

    private void barriers() {
        says("BARRIER from i to j: i, and all to which there are WAYS from i that are stronger than P of i to j "
                + "(than none: all to which there are WAYS).");
        runner.linked(4, "0>1 4, 0>2 2, 1>3 2");
        run("barrier(0,1)=1 barrier(0,2)=3 barrier(0,3)=3 barrier(1,0)=10 barrier(1,2)=10 barrier(1,3)=2 barrier(2,0)=4 barrier(3,1)=8");
        run("out(1,1)=0 barrier(0,2)=1 barrier(0,3)=5 barrier(0,1)=-3 barrier(1,0)=-3 barrier(0,0)=-1");
        runner.linked(8, "7>6 4, 6>5 4, 5>4 4, 4>3 4, 3>2 4, 2>1 4, 1>0 2");
        run("barrier(7,0)=254 barrier(7,1)=128 barrier(0,7)=1 barrier(6,7)=127 barrier(1,7)=3");
    }

    private void beating() {
        says("i BEATS j: P of i to j is stronger than P of j to i (any is stronger than none).");
        runner.linked(3, "0>1 4, 1>2 4, 2>0 4");
        run("beats(0,1)=0 beats(1,0)=0 beats(2,0)=0 told(8)=0 told(7)=3 winners()=7");
        runner.linked(3, "0>1 4, 1>2 4, 2>0 2");
        run("beats(0,1)=1 beats(1,0)=0 beats(0,2)=1 beats(2,0)=0 beats(1,2)=1 beats(2,1)=0 told(8)=3 winners()=1");
        runner.linked(4, "0>1 2, 1>2 4");
        run("beats(0,2)=1 beats(2,0)=0 beats(0,3)=0 beats(3,0)=0 beats(3,2)=0 told(8)=3 winners()=9");
        says("WINNERS: all IN whom no one BEATS.");
        run("new begin(8)=3 winners()=255 out(0,1)=0 out(7,1)=0 winners()=126 '1:0' ballots()=1 winners()=126 out(0,0)=1 winners()=1");
        run("new '1:0>1>2' ballots()=1 winners()=1 out(0,1)=0 winners()=2 out(1,1)=0 winners()=4 out(2,1)=-3 winners()=4");
    }

    private void ranks() {
        says("RANKS: of all IN: again and again of those left whom no one left BEATS that which is first in THE DRAW.");
        run("new begin(4)=3 '1:0=1>2=3' ballots()=1 ranked(0)=0 ranked(1)=1 ranked(2)=2 ranked(3)=3 ahead(3)=3 ahead(1)=2");
        run("ranked(0)=1 ranked(1)=0 ranked(2)=3 ranked(3)=2 ranked(4)=-1 rank(1)=0 rank(0)=1 rank(3)=2 rank(2)=3");
        run("out(1,1)=0 ranked(0)=0 ranked(1)=3 ranked(2)=2 ranked(3)=-1 rank(1)=-3 rank(2)=2 ranked(-1)=-1");
        says("RANKS look at BEATS by all that are IN.");
        // 1 BEATS 2 by the WAY over 0 alone: it counts when 0 is ranked already, not where 0 is OUT.
        runner.linked(4, "1>0 4, 0>2 6, 2>1 2, 0>3 6, 3>1 6");
        run("beats(1,2)=1 ranked(0)=0 ranked(1)=3 ranked(2)=1 ranked(3)=2 rank(2)=3 rank(1)=2");
        run("out(0,1)=0 beats(1,2)=0 beats(2,1)=1 ranked(0)=2 ranked(1)=3 ranked(2)=1");
        says("FIRST: the first of RANKS.");
        run("new begin(8)=3 ahead(7)=7 ranked(0)=7 rank(7)=0 without(7)=0 '0' would(1)=0 out(7,1)=0 ranked(0)=0");
    }

    private void proofs() {
        says("A PROOF of i over j, as a row: how many CANDIDATES THE WAY has from i to j, these in order, "
                + "then BARRIER from j to i (bits).");
        runner.linked(3, "0>1 6, 1>2 8, 2>0 4");
        run("list(0,4)=1 prove(0,0,0,1)=4 get(0,0)=2 get(0,1)=0 get(0,2)=1 get(0,3)=6 proves(0,0,0,1)=1 barrier(1,0)=6");
        run("list(0,5)=1 prove(0,0,0,2)=5 get(0,0)=3 get(0,1)=0 get(0,2)=1 get(0,3)=2 get(0,4)=4 proves(0,0,0,2)=1");
        runner.linked(8, "0>1 2, 1>2 2, 2>3 2, 3>4 2, 4>5 2, 5>6 2, 6>7 2");
        run("list(0,10)=1 prove(0,0,0,7)=10 get(0,0)=8 get(0,1)=0 get(0,4)=3 get(0,8)=7 get(0,9)=128 proves(0,0,0,7)=1");
        run("list(1,9)=1 prove(1,0,0,7)=-13 get(1,0)=8 get(1,8)=7 proves(1,0,0,7)=0 list(2,40)=1 prove(2,30,0,7)=10 get(2,39)=128");
        run("proves(2,30,0,7)=1 proves(2,29,0,7)=0 proves(2,31,0,7)=0 prove(2,31,0,7)=-13 get(2,30)=8 get(2,31)=8 get(2,39)=7");
    }

    private void proving() {
        says("A row PROVES i over j, if the first number is m (2 .. 8), the next m are a WAY from i to j, and the next is "
                + "a set of CANDIDATES (bits) with j, without i, and each LINK from one of it to one that is IN and not of it "
                + "is weaker than that WAY, or there is none.");
        runner.linked(4, "0>1 6, 1>2 6, 2>0 4, 0>3 6");
        run("list(0,4)=1 set(0,0,2)=1 set(0,1,0)=1 set(0,2,1)=1 set(0,3,6)=1 proves(0,0,0,1)=1 proves(0,0,0,2)=0 proves(0,0,1,0)=0");
        // 1 to 2 is as strong as the WAY, so 2 must be in the set; no LINK goes out of 3, so it may be.
        run("set(0,3,2)=1 proves(0,0,0,1)=0 set(0,3,14)=1 proves(0,0,0,1)=1 set(0,3,7)=1 proves(0,0,0,1)=0 set(0,3,4)=1 proves(0,0,0,1)=0");
        run("set(0,3,0)=1 proves(0,0,0,1)=0 set(0,3,6)=1 proves(0,0,0,1)=1 set(0,0,1)=1 proves(0,0,0,1)=0 set(0,0,3)=1 proves(0,0,0,1)=0");
        run("set(0,0,0)=1 proves(0,0,0,1)=0 set(0,0,-2)=1 proves(0,0,0,1)=0 set(0,0,LONGLEAST)=1 proves(0,0,0,1)=0");
        run("set(0,0,2)=1 set(0,1,1)=1 proves(0,0,0,1)=0 set(0,1,0)=1 set(0,2,2)=1 proves(0,0,0,1)=0 proves(0,0,0,2)=0");
        run("set(0,2,3)=1 set(0,3,8)=1 proves(0,0,0,3)=1 set(0,3,10)=1 proves(0,0,0,3)=0 set(0,3,14)=1 proves(0,0,0,3)=1");
        // A WAY from another one than i proves nothing for i.
        runner.linked(4, "0>1 6, 2>1 6");
        run("list(0,4)=1 set(0,0,2)=1 set(0,1,2)=1 set(0,2,1)=1 set(0,3,2)=1 proves(0,0,2,1)=1 proves(0,0,0,1)=0 set(0,1,0)=1");
        run("proves(0,0,0,1)=1 proves(0,0,2,1)=0 proves(0,0,3,1)=0 proves(0,0,0,3)=0");
        runner.linked(4, "0>1 6, 1>2 6, 2>0 4, 0>3 6");
        // A longer WAY; one by a CANDIDATE twice is none, nor is one over itself.
        run("list(1,12)=1 set(1,0,3)=1 set(1,1,0)=1 set(1,2,1)=1 set(1,3,2)=1 set(1,4,4)=1 proves(1,0,0,2)=1 set(1,4,6)=1");
        run("proves(1,0,0,2)=1 set(1,0,5)=1 set(1,1,0)=1 set(1,2,1)=1 set(1,3,2)=1 set(1,4,0)=1 set(1,5,3)=1 set(1,6,8)=1");
        run("proves(1,0,0,3)=0 set(1,0,4)=1 set(1,4,0)=1 set(1,5,4)=1 proves(1,0,0,0)=0 set(1,0,9)=1 proves(1,0,0,2)=0");
        // The set's LINK out is 4: it is weaker than 6, not than 4.
        runner.linked(4, "0>1 6, 1>2 4, 2>0 2, 1>3 4");
        run("list(0,5)=1 set(0,0,2)=1 set(0,1,0)=1 set(0,2,1)=1 set(0,3,2)=1 proves(0,0,0,1)=1 prove(0,0,0,2)=5 get(0,4)=4");
        run("proves(0,0,0,2)=1 set(0,4,12)=1 proves(0,0,0,2)=1 set(0,4,6)=1 proves(0,0,0,2)=0 set(0,4,14)=1 proves(0,0,0,2)=1");
        // 0 may be in the set, too: its LINK to 3 is as strong as the WAY.
        runner.linked(4, "1>2 6, 2>0 6, 0>1 4, 0>3 6");
        run("list(0,4)=1 prove(0,0,2,0)=4 get(0,3)=9 proves(0,0,2,0)=1 set(0,3,3)=1 proves(0,0,2,0)=0 set(0,3,9)=1 proves(0,0,2,0)=1");
        run("set(0,3,1)=1 proves(0,0,2,0)=0 told(8)=6 beats(2,0)=1 beats(1,0)=1 beats(1,2)=1");
        // 9 is no m, though all that follows were right.
        runner.linked(8, "0>1 2, 1>2 2, 2>3 2, 3>4 2, 4>5 2, 5>6 2, 6>7 2");
        run("list(3,11)=1 prove(3,0,0,7)=10 set(3,0,9)=1 set(3,9,7)=1 set(3,10,128)=1 proves(3,0,0,7)=0 set(3,0,8)=1");
        run("set(3,9,254)=1 proves(3,0,0,7)=1 set(3,9,255)=1 proves(3,0,0,7)=0 set(3,9,510)=1 proves(3,0,0,7)=0");
    }

    // ---- 3

    private void smith() {
        says("SMITH: the least set (bits; of those IN, not none) with a LINK from each of it to each IN that is not of it.");
        run("new smith()=7 begin(8)=3 smith()=255 begin(2)=8 smith()=3 out(0,1)=0 smith()=2 out(0,0)=1 '1:1' ballots()=1 smith()=2");
        runner.linked(3, "0>1 2, 1>2 4, 2>0 6");
        run("smith()=7 out(0,1)=0 smith()=2");
        run("new begin(8)=3 '1:7>6>5>4>3>2>1>0' ballots()=1 smith()=128 out(7,1)=0 smith()=64 out(6,1)=0 smith()=32");
        // A tie is no LINK: 2 ties with 0, so it is drawn in, and 1 by it.
        run("new '1:0>1>2;1:2>0>1' ballots()=2 smith()=7 begin(4)=3 '1:0>1>2>3;1:1>2>0>3' ballots()=2 smith()=7");
        run("new begin(4)=3 '1:0>1=2=3' ballots()=1 smith()=1 out(0,1)=0 smith()=14");
    }

    private void clones() {
        says("CLONES: a set (bits) of two or more that are IN, not of all, so that on each BALLOT each other one that is IN "
                + "is ahead of all of it, or behind all of it; numbered by their bits.");
        run("new begin(4)=3 '1:0>1>2>3' ballots()=1 clones(-1)=5 clones(0)=3 clones(1)=6 clones(2)=7 clones(3)=12 clones(4)=14");
        run("clones(5)=-1 clones(MOST)=-1 clones(-2)=-1 clones(LEAST)=-1 '1:1>3>0>2' ballots()=1 clones(-1)=0 clones(0)=-1");
        run("out(3,1)=0 clones(-1)=1 clones(0)=3 clones(1)=-1 out(2,1)=0 clones(-1)=0 out(1,1)=0 clones(-1)=0");
        run("begin(2)=4 clones(-1)=0 clones(0)=-1 '1:0' ballots()=1 clones(-1)=0");
        says("CLONES: a CANDIDATE that shares a PLACE with one of a set is neither ahead of it nor behind it; "
                + "without BALLOTS each set of two or more, but not all that are IN, are CLONES.");
        run("new '1:0=1>2' ballots()=1 clones(-1)=1 clones(0)=3 begin(3)=3 '1:2>0=1' ballots()=1 clones(-1)=1 clones(0)=3");
        run("begin(3)=3 '1:0=1=2' ballots()=1 clones(-1)=0 out(2,1)=0 clones(-1)=0");
        run("new begin(4)=3 '1:0=1>2>3' ballots()=1 clones(-1)=3 clones(0)=3 clones(1)=7 clones(2)=12 out(1,1)=0 clones(-1)=2");
        run("clones(0)=5 clones(1)=12");
        run("new clones(-1)=3 clones(0)=3 clones(1)=5 clones(2)=6 clones(3)=-1 begin(2)=3 clones(-1)=0 begin(8)=2 clones(-1)=246");
        run("clones(245)=254 clones(246)=-1 out(0,1)=0 clones(-1)=119 clones(0)=6 clones(118)=252");
    }

    private void turners() {
        says("In thought (nothing is changed): a CANDIDATE is OUT; a RANKING comes c times more; a BALLOT's COUNT is 1 less; "
                + "another MEASURE.");
        run("new '3:0;3:1' ballots()=2 without(0)=1 '1' would(1)=1 '1' needs(1)=1 turners()=1 agree()=15 flips(0)=1");
        run("told(0)=3 told(1)=2 told(2)=6 told(3)=0 told(4)=0 ballot(0,0)=3 ballot(1,0)=3 pair(0,1)=3 pair(1,0)=3 ranked(0)=0 drawn(0)=0");
        says("TURNERS: BALLOTS (bits) of which, were COUNT 1 less, FIRST were another one.");
        run("new turners()=0 '3:0;2:1' ballots()=2 turners()=0 ahead(1)=1 turners()=1 begin(2)=3 '2:1;2:0' ballots()=2 turners()=2");
        runner.forty();
        run("ranked(0)=0 turners()=733007751850 remove(38,1)=0 turners()=0 ahead(1)=1 turners()=458129844906 told(2)=39");
        says("By -1 in TURNERS a BALLOT of COUNT 1 is gone.");
        run("new begin(2)=3 '1:1' ballots()=1 ranked(0)=1 turners()=1 told(1)=1 ahead(1)=1 turners()=0");
    }

    private void sums() {
        says("SUM of a CANDIDATE that is IN: on each BALLOT COUNT times how many that are IN are in a greater PLACE, added up.");
        run("new sum(0,0)=0 '2:0>1>2;3:1=2>0' ballots()=2 sum(0,0)=4 sum(1,0)=5 sum(2,0)=3 out(0,1)=0 sum(1,0)=2 sum(2,0)=0 sum(0,0)=NO");
        // Those of BALLOTS that are gone aren't added.
        run("out(1,1)=0 sum(2,0)=0 begin(3)=3 sum(0,0)=0 sum(0,1)=0 '2:0;3:0>1;4:1' ballots()=3 remove(0,2)=0 sum(0,0)=6 sum(0,1)=3");
        run("sum(1,0)=11 sum(1,1)=4 remove(1,4)=0 sum(0,0)=6 sum(1,0)=3 sum(1,1)=0 undo()=-3 image()=1 remove(0,3)=0 sum(0,0)=0 undo()=1 sum(0,0)=6");
        run("new begin(8)=3 '1000000:0;1000000:0>1;1000000:0>2;1000000:0>3' ballots()=4 sum(0,0)=28000000");
        says("LEADS: COUNTS of BALLOTS on which it is ahead of all others that are IN.");
        run("new sum(0,1)=0 '2:0>1>2;3:1=2>0;4:1>0' ballots()=3 sum(0,1)=2 sum(1,1)=4 sum(2,1)=0 out(1,1)=0 sum(0,1)=6 sum(2,1)=3");
        says("LEADS: alone in its PLACE; with one IN alone all COUNTS.");
        run("out(0,1)=0 sum(2,1)=9 out(0,0)=1 out(2,1)=0 sum(0,1)=9 begin(2)=3 '5:0=1' ballots()=1 sum(0,1)=0 sum(1,1)=0 out(1,1)=0 sum(0,1)=5");
    }

    /** Reckoned with longs here, as an int wraps around. */
    private void shuffled() {
        says("A DRAW below k by a SEED: z becomes z * 1103515245 + 12345 (an int; SEED at first), then (z >>> 9) % k.");
        says("THE DRAW SHUFFLED by a SEED: by numbers first; then for k n - 1, .. 1: "
                + "those of places k and a DRAW below k + 1 change places.");
        int[] seeds = {0, 1, -1, 2, 7, 12345, -12345, 1103515245, Integer.MIN_VALUE, Integer.MIN_VALUE + 1,
            Integer.MAX_VALUE, Integer.MAX_VALUE - 1, 1 << 30, 511, 512, -512};
        for (int n = 2; n <= 8; n++) {
            run("new begin(" + n + ")=3 ahead(1)=1");
            for (int seed : seeds) {
                StringBuilder order = new StringBuilder("01234567".substring(0, n));
                long z = seed & 0xFFFFFFFFL;
                for (int k = n - 1; k >= 1; k--) {
                    z = (z * 1103515245L + 12345L) & 0xFFFFFFFFL;
                    int other = (int) ((z >> 9) % (k + 1));
                    char moved = order.charAt(k);
                    order.setCharAt(k, order.charAt(other));
                    order.setCharAt(other, moved);
                }
                run("shuffle(" + seed + ")=" + order.charAt(0));
                for (int k = 0; k < n; k++) {
                    run("drawn(" + k + ")=" + order.charAt(k));
                }
                run("drawn(" + n + ")=-1");
            }
        }
    }

    private void tapeAndPaper() {
        says("THE TAPE holds 0 .. 120 bytes.");
        run("new told(5)=0 clear()=0");
        for (int k = 1; k <= 120; k++) {
            run("feed(48)=" + k);
        }
        run("feed(48)=-4 feed(127)=-4 feed(0)=-2 told(5)=120 clear()=120 told(5)=0 feed(48)=1 clear()=1 clear()=0");
        says("THE PAPER holds the latest text told by a call (nothing at first).");
        run("new told(6)=0 paper(0)=-1 paper(-1)=-1 '1:0=1;1:2' ballots()=2 told(6)=0 spell(0)=3 paper='0=1' paper(2)=49 paper(3)=-1");
        run("spell(1)=1 told(6)=1 paper='2' paper(1)=-1 spell(2)=-1 paper='2' spell(0)=3 paper='0=1' paper(LEAST)=-1 paper(MOST)=-1");
        run("'0=2' find()=-5 '0' would(1)=0 paper='0=1' begin(2)=3 paper='0=1'");
    }

    private void lists() {
        says("LISTS 0 .. 3 hold nothing (at first) or a row of 0 .. 40 longs.");
        for (int l = 0; l < 4; l++) {
            run("new get(" + l + ",0)=NO set(" + l + ",0,1)=-11 list(" + l + ",41)=-2 get(" + l + ",0)=NO list(" + l + ",-1)=-14");
            run("set(" + l + ",0,1)=-11 proves(" + l + ",0,0,1)=-11 list(" + l + ",0)=1 get(" + l + ",0)=NO set(" + l + ",0,1)=-13");
            run("proves(" + l + ",0,0,1)=0 list(" + l + ",1)=1 get(" + l + ",0)=0 get(" + l + ",1)=NO set(" + l + ",1,1)=-13");
            run("list(" + l + ",40)=1 set(" + l + ",39,LONGMOST)=1 get(" + l + ",39)=LONGMOST get(" + l + ",40)=NO set(" + l + ",40,1)=-13");
            for (int other = 0; other < 4; other++) {
                run(other == l ? "set(" + l + ",0,5)=1" : "get(" + other + ",0)=NO set(" + other + ",0,1)=-11");
            }
        }
        run("new list(-1,1)=-1 list(4,1)=-1 set(-1,0,0)=-1 set(4,0,0)=-1 get(-1,0)=NO get(4,0)=NO list(LEAST,1)=-1 list(MOST,1)=-1");
        says("NOTHING (-11): there is none; BEYOND (-13): no such place; BELOW (-14): a size below 0.");
        run("set(3,0,0)=-11 list(3,2)=1 set(3,2,0)=-13 set(3,-1,0)=-13 set(3,LEAST,0)=-13 set(3,MOST,0)=-13 list(3,LEAST)=-14 list(3,-1)=-14");
        run("get(3,1)=0 set(3,1,LONGLEAST)=1 get(3,1)=LONGLEAST list(3,MOST)=-2 get(3,1)=LONGLEAST list(3,2)=1 get(3,1)=0");
    }

    private void image() {
        says("THE IMAGE: CANDIDATES, who is OUT, BALLOTS, THE DRAW, MEASURE (THE TAPE, THE PAPER, LISTS stay by undo()).");
        run("new begin(4)=3 '3:0>1;2:2' ballots()=2 out(3,1)=0 ahead(2)=2 measure(3)=0 spell(0)=3 list(0,1)=1 '1:0' image()=2");
        run("begin(7)=4 measure(1)=3 shuffle(3)=4 spell(0)=-1 clear()=3 '1:6;1:5>4' ballots()=2 spell(1)=3 list(0,2)=1 set(0,1,8)=1 '2:1'");
        run("undo()=2 told(0)=4 told(1)=2 told(2)=5 told(3)=8 told(4)=3 told(5)=3 paper='5>4' get(0,1)=8 drawn(0)=2 drawn(1)=0 drawn(3)=3");
        run("pair(0,1)=3 pair(2,0)=2 ballot(0,0)=3 ballot(1,0)=2 ballots()=1 told(1)=3 ballot(2,11)=0 undo()=2 told(1)=2");
    }
}
