import java.util.Arrays;

/** For each promise: ordinary inputs, the edges that the document names, wrong inputs. */
public final class PromiseTests {
    private static final int LEAST = Integer.MIN_VALUE;
    private static final int MOST = Integer.MAX_VALUE;
    private static final int NULL = -11, INDEX = -12, CAST = -13, STORE = -14, SIZE = -15;
    private static final int NONE = -1, BAD = -2, NOT = -3, FULL = -4;
    private static int wrong = 0;

    private static void due(String call, long got, long want) {
        if (got != want) {
            wrong++;
            System.out.println(call + " answered " + got + ", due is " + want);
        }
    }

    private static ScreenVotes withPlayers(int n) {
        ScreenVotes x = new ScreenVotes();
        for (int p = 0; p < n; p++) {
            x.player(0);
        }
        return x;
    }

    private static void typeText(ScreenVotes x, String text) {
        x.repeal();
        for (int i = 0; i < text.length(); i++) {
            x.type(text.charAt(i));
        }
    }

    /** A word for each player: y yes, n no, - lost, of jurors 0, 1 and so on; jurors that are not named are lost. */
    private static void vote(ScreenVotes x, int round, String... words) {
        x.sheet(round, 0, 9 * words.length);
        for (int p = 0; p < words.length; p++) {
            for (int j = 0; j < 9; j++) {
                char c = j < words[p].length() ? words[p].charAt(j) : '-';
                x.put(round, 0, 9 * p + j, c == 'y' ? 1 : c == 'n' ? 0 : -1);
            }
        }
    }

    /** The seed is sought without the object, as that is used for 512 calls at most. */
    private static void order(ScreenVotes x, int... players) {
        for (int seed = 0; seed < 100000; seed++) {
            if (Arrays.equals(drawn(players.length, seed), players)) {
                x.draw(seed);
                return;
            }
        }
        due("a seed for the order", 0, 1);
    }

    private static int[] drawn(int players, int seed) {
        int[] row = new int[players];
        for (int i = 0; i < players; i++) {
            row[i] = i;
        }
        int s = seed;
        for (int i = players - 1; i > 0; i--) {
            s = s * 1103515245 + 12345;
            int j = ((s >> 16) & 0xffff) % (i + 1);
            int t = row[i];
            row[i] = row[j];
            row[j] = t;
        }
        return row;
    }

    private static void newObject() {
        ScreenVotes x = new ScreenVotes();
        int[] counts = {0, 5, 0, 0, 0, 0, 0};
        for (int what = 0; what < counts.length; what++) {
            due("new: count(" + what + ")", x.count(what), counts[what]);
        }
        for (int s = 0; s < 4; s++) {
            due("new: lose(" + s + ")", x.lose(s), NULL);
        }
        due("new: fault()", x.fault(), 0);
        due("new: seat()", x.seat(), NONE);
        due("new: draw(1)", x.draw(1), NONE);
    }

    private static void player() {
        ScreenVotes x = new ScreenVotes();
        due("player(-1)", x.player(-1), BAD);
        due("player(512)", x.player(512), BAD);
        for (int p = 0; p < 24; p++) {
            due("player " + p, x.player(p == 3 ? 511 : 0), p);
        }
        due("player 24", x.player(0), FULL);
        due("a bad one of a full row", x.player(512), BAD);
        due("count(0) when full", x.count(0), 24);
        x.sheet(0, 0, 240);
        due("all jurors are kin", x.votes(3, 0, 0), 0);
        due("no juror is kin", x.votes(23, 0, 0), 5);
    }

    private static void jurors() {
        ScreenVotes x = withPlayers(1);
        vote(x, 0, "yyyyyyyyy");
        due("jurors(9)", x.jurors(9), 5);
        due("nine vote", x.votes(0, 0, 0), 9);
        due("jurors(1)", x.jurors(1), 9);
        due("one votes", x.votes(0, 0, 0), 1);
        due("jurors(0)", x.jurors(0), BAD);
        due("jurors(10)", x.jurors(10), BAD);
        due("jurors(least)", x.jurors(LEAST), BAD);
        due("count(1)", x.count(1), 1);
    }

    private static void draw() {
        ScreenVotes x = withPlayers(4);
        due("draw(7)", x.draw(7), 1);
        due("order(3)", x.order(3), 0);
        x.player(0);
        due("one more comes last", x.order(4), 4);
        due("the rest stays", x.order(0), 1);
        x.draw(99);
        int first = x.order(0);
        int second = x.order(1);
        x.draw(5);
        due("the same seed, the same first", x.draw(99), first);
        due("the same seed, the same second", x.order(1), second);
        ScreenVotes one = withPlayers(1);
        due("draw of one", one.draw(LEAST), 0);
        drawByHand(-123456789);
        drawByHand(MOST);
    }

    private static void drawByHand(int seed) {
        ScreenVotes x = withPlayers(24);
        int[] row = drawn(24, seed);
        due("draw(" + seed + ")", x.draw(seed), row[0]);
        for (int i = 0; i < 24; i++) {
            due("order(" + i + ") by seed " + seed, x.order(i), row[i]);
        }
    }

    private static void order() {
        ScreenVotes x = withPlayers(3);
        for (int i = 0; i < 3; i++) {
            due("order by numbers", x.order(i), i);
        }
        due("order(-1)", x.order(-1), BAD);
        due("order(3)", x.order(3), BAD);
        due("order(most)", x.order(MOST), BAD);
        due("order(0) of none", new ScreenVotes().order(0), BAD);
    }

    private static void votes() {
        ScreenVotes x = withPlayers(1);
        x.player(0b10010);
        vote(x, 2, "yn-y", "yyyny");
        due("counting", x.votes(0, 2, 0), 3);
        due("yes", x.votes(0, 2, 1), 2);
        due("kin 1 and 4 sit out", x.votes(1, 2, 0), 3);
        due("yes less kin", x.votes(1, 2, 1), 2);
        due("a lost sheet", x.votes(0, 1, 0), 0);
        x.sheet(3, 2, 11);
        x.put(3, 2, 10, 7);
        x.put(3, 2, 8, MOST);
        due("a short sheet", x.votes(1, 3, 0), 1);
        due("items above 1 behind J", x.votes(0, 3, 1), 0);
        x.sheet(0, 0, 9);
        x.put(0, 0, 0, 128);
        x.put(0, 0, 1, 256);
        x.put(0, 0, 2, 127);
        due("128 is no byte above 0", x.votes(0, 0, 0), 4);
        due("256 is 0 as a byte", x.votes(0, 0, 1), 1);
        int[][] bad = {{-1, 0, 0}, {2, 0, 0}, {0, -1, 0}, {0, 4, 0}, {0, 0, -1}, {0, 0, 2}, {LEAST, MOST, 0}};
        for (int[] b : bad) {
            due("votes bad", x.votes(b[0], b[1], b[2]), BAD);
        }
    }

    private static void type() {
        ScreenVotes x = new ScreenVotes();
        due("type(-1)", x.type(-1), BAD);
        due("type(256)", x.type(256), BAD);
        for (int i = 1; i <= 60; i++) {
            due("type " + i, x.type(i == 7 ? 255 : i), i);
        }
        due("type 61", x.type(0), FULL);
        due("type bad when full", x.type(256), BAD);
        due("count(2)", x.count(2), 60);
    }

    private static void repeal() {
        ScreenVotes x = new ScreenVotes();
        due("repeal of none", x.repeal(), 0);
        typeText(x, "v1a1a");
        due("repeal", x.repeal(), 5);
        due("fault after it", x.fault(), 0);
        due("count(2) after it", x.count(2), 0);
        due("count(3) after it", x.count(3), 0);
        due("type after it", x.type('v'), 1);
    }

    private static void fault(String text, int want) {
        ScreenVotes x = new ScreenVotes();
        typeText(x, text);
        due("fault of " + text, x.fault(), want);
        due("count(3) of " + text, x.count(3), want == NONE ? text.split(";").length : 0);
        due("law(0, 0) of " + text + " is NOT", x.law(0, 0) == NOT ? 1 : 0, want == NONE ? 0 : 1);
    }

    private static void fault() {
        String[] good = {"v1a1a", "v100a24s", "v001a001n", "v99a9d", "v1a1a;v2a2n;v3a3d;v4a4s", "v10a10a;v10a10a"};
        for (String text : good) {
            fault(text, NONE);
        }
        String[] end = {"", "v", "v1", "v100", "v1a", "v1a1", "v1a24", "v1a1a;", "v1a1a;v1a1a;v1a1a;"};
        for (String text : end) {
            fault(text, text.length());
        }
        fault("V1a1a", 0);
        fault("a", 0);
        fault(";v1a1a", 0);
        fault("va1a", 1);
        fault("v-1a1a", 1);
        fault("v0a1a", 1);
        fault("v0", 1);
        fault("v000a1a", 1);
        fault("v101a1a", 1);
        fault("v0001a1a", 1);
        fault("v99999999999999999999a1a", 1);
        fault("v4294967297a1a", 1);
        fault("v1n1a", 2);
        fault("v1 a1a", 2);
        fault("v1a0a", 3);
        fault("v1a25a", 3);
        fault("v1a0250a", 3);
        fault("v1a100a", 3);
        fault("v1a24v", 5);
        fault("v1a1A", 4);
        fault("v1a1aa", 5);
        fault("v1a1a v1a1a", 5);
        fault("v1a1a;;", 6);
        fault("v1a1a;a", 6);
        fault("v0024", 4);
        fault("v0024a1a", 4);
        fault("v1000a1a", 4);
        fault("v0100a1a", 4);
        fault("v00100a1a", 4);
        fault("v1010a1a", 1);
        fault("v0000", 1);
        fault("v001", 4);
        fault("v1a0024a", 6);
        fault("v1a0241", 6);
        fault("v1a0010000", 6);
        fault("v1a0001a", 3);
        fault("v1a1a;v0505a1a", 10);
        fault("v1a1a;v5a0242d", 12);
        fault("v1a1a;v1a1a;v1a1a;v0a1a", 19);
        fault("v1a1a;v1a1a;v1a1a;v1a1a;", 23);
        fault("v1a1a;v1a1a;v1a1a;v1a1a;v0", 23);
        fault("v1a1a;v1a1a;v1a1a;v1a1ax", 23);
        fault("v1a1a\u00ff", 5);
        ScreenVotes x = new ScreenVotes();
        typeText(x, "v12a12n");
        typeText(x, "v1");
        due("fault: nothing of a text before", x.fault(), 2);
    }

    private static void law() {
        ScreenVotes x = new ScreenVotes();
        due("law bad round before NOT", x.law(4, 0), BAD);
        due("law bad what before NOT", x.law(0, 3), BAD);
        due("law round -1", x.law(-1, 0), BAD);
        due("law of a fault", x.law(3, 2), NOT);
        typeText(x, "v7a3n;v100a24s");
        int[][] want = {{7, 3, 'n'}, {100, 24, 's'}};
        for (int r = 0; r < 2; r++) {
            for (int what = 0; what < 3; what++) {
                due("law " + r + " " + what, x.law(r, what), want[r][what]);
            }
        }
        due("law no such round", x.law(2, 0), BAD);
        due("law what -1", x.law(0, -1), BAD);
        x.type('a');
        due("law of a fault behind", x.law(0, 0), NOT);
    }

    private static void advance() {
        ScreenVotes x = withPlayers(5);
        x.player(511);
        vote(x, 0, "yyyy", "yyyn", "yynn", "ynnn", "nnnn", "yyyy");
        typeText(x, "v50a24a");
        due("advance: pass 50", x.advance(0), 3);
        typeText(x, "v51a24a");
        due("advance: pass 51", x.advance(0), 2);
        typeText(x, "v1a24a");
        due("advance: none without votes that count", x.advance(0), 4);
        typeText(x, "v1a2n");
        due("advance: the two greatest", x.through(0), 3);
        due("advance: -1", x.advance(-1), BAD);
        due("advance: 1", x.advance(1), BAD);
        due("advance: 4", x.advance(4), BAD);
        x.repeal();
        due("advance: fault", x.advance(0), NOT);
        due("advance: bad before NOT", x.advance(4), BAD);
        due("advance: no round before NOT", x.advance(3), NOT);
        due("advance: no players", advanceOfNone(), 0);
    }

    private static int advanceOfNone() {
        ScreenVotes x = new ScreenVotes();
        typeText(x, "v1a1a");
        return x.advance(0);
    }

    private static void ties(String letter, int want) {
        ScreenVotes x = withPlayers(5);
        order(x, 4, 3, 2, 1, 0);
        vote(x, 0, "yyyn", "yn", "yynn", "ynyn", "n");
        typeText(x, "v1a2" + letter);
        due("tie " + letter, x.through(0), want);
        due("how many by tie " + letter, x.advance(0), Integer.bitCount(want));
    }

    private static void through() {
        ties("a", 0b01111);
        ties("n", 0b00001);
        ties("d", 0b01001);
        ties("s", 0b01001);
        ScreenVotes full = withPlayers(3);
        vote(full, 0, "y", "yn", "yn");
        typeText(full, "v1a1a");
        due("like ones behind a full row stay out", full.through(0), 1);
        yesSoFar();
        exactShares();
        onlyThoseWhoAreIn();
        ScreenVotes x = withPlayers(2);
        due("through: NOT", x.through(0), NOT);
        due("through: BAD before NOT", x.through(-1), BAD);
        typeText(x, "v1a1a");
        due("through: no such round", x.through(1), BAD);
        due("through: none", x.through(0), 0);
    }

    private static void yesSoFar() {
        ScreenVotes x = withPlayers(4);
        order(x, 2, 1, 3, 0);
        vote(x, 0, "yyy", "yy", "y", "yyy");
        vote(x, 1, "yyn", "ynn", "ynn", "yn");
        vote(x, 2, "yn", "yyynnn", "yn", "yn");
        vote(x, 3, "y", "yyyyy", "yyyyy", "y");
        typeText(x, "v100a1s");
        due("more yes in this round, then the order", x.through(0), 0b1000);
        typeText(x, "v100a4a;v1a4a;v50a1s");
        due("yes in all rounds so far, this one too", x.through(2), 0b0010);
        typeText(x, "v100a4a;v1a4a;v50a2s");
        due("two of them", x.through(2), 0b0011);
        typeText(x, "v100a4a;v1a4a;v50a3s");
        due("three of them", x.through(2), 0b1011);
        typeText(x, "v100a4a;v1a4a;v50a2d");
        due("by the order alone", x.through(2), 0b0110);
        x.repeal();
        typeText(x, "v100a2s");
        due("two of like ones", x.through(0), 0b1001);
        vote(x, 0, "y", "yy", "y", "y");
        typeText(x, "v100a1s");
        due("an earlier call leaves nothing behind", x.through(0), 0b0010);
    }

    private static void exactShares() {
        ScreenVotes x = withPlayers(3);
        x.jurors(9);
        vote(x, 0, "yyyyyyynn", "yyyyyynn", "yyynn");
        typeText(x, "v60a1n");
        due("7 of 9 above 6 of 8", x.through(0), 1);
        typeText(x, "v60a2n");
        due("6 of 8 above 3 of 5", x.through(0), 3);
        vote(x, 0, "yyn", "yyyynn", "yyyyyynnn");
        typeText(x, "v66a1n");
        due("2 of 3, 4 of 6, 6 of 9 are like", x.through(0), 0);
        typeText(x, "v67a1a");
        due("2 of 3 are less than 67 hundredths", x.through(0), 0);
    }

    private static void onlyThoseWhoAreIn() {
        ScreenVotes x = withPlayers(3);
        vote(x, 0, "y", "n", "y");
        vote(x, 1, "yn", "yy", "yn");
        typeText(x, "v50a3a;v50a1s");
        due("out stays out", x.through(1), 1);
        due("the first round as before", x.through(0), 5);
    }

    private static void chosen() {
        ScreenVotes x = withPlayers(3);
        due("chosen: fault", x.chosen(), NOT);
        vote(x, 0, "yn", "yy", "yy");
        vote(x, 1, "y", "n", "y");
        typeText(x, "v50a2n");
        due("chosen: two", x.chosen(), NONE);
        typeText(x, "v1a3n;v1a2n;v1a1n");
        vote(x, 2, "y", "n", "n");
        due("chosen: player 0", x.chosen(), 0);
        typeText(x, "v50a2n;v50a1n");
        due("chosen: one", x.chosen(), 2);
        typeText(x, "v100a2n;v50a1n;v1a1a");
        due("chosen: none", x.chosen(), NONE);
    }

    private static void other() {
        ScreenVotes x = withPlayers(4);
        order(x, 3, 2, 1, 0);
        due("other(0)", x.other(0), BAD);
        due("other(4)", x.other(4), BAD);
        due("other(1) of a fault", x.other(1), NOT);
        due("other(2) of a fault", x.other(2), NOT);
        due("other(3) of a fault", x.other(3), NONE);
        typeText(x, "v100a1n;v100a1n");
        due("other(1): like ones", x.other(1), 3);
        due("other(2): none without votes", x.other(2), NONE);
        vote(x, 0, "ynnnn", "yyynn", "n", "-");
        vote(x, 1, "yyyyy", "yyynn", "-", "yn");
        vote(x, 2, "nnnnn", "nnnnn", "-", "yyyyy");
        due("other(1): the first of like ones", x.other(1), 1);
        due("other(2): the first of like ones", x.other(2), 1);
        vote(x, 1, "yyyyy", "yyynn", "-", "yyn");
        due("other(2): the greatest share", x.other(2), 3);
        typeText(x, "v1a1n;v1a1n;v1a1n");
        due("other(1): all rounds", x.other(1), 3);
        vote(x, 2, "nnnnn", "nnnnn", "-", "yyyyy");
        x.lose(0);
        x.lose(1);
        due("other(1): the third round", x.other(1), 3);
        vote(x, 2, "nnnnn", "nnnnn", "n", "-");
        due("other(2): no yes at all", x.other(2), 2);
        pairs();
    }

    private static void pairs() {
        ScreenVotes x = withPlayers(3);
        due("pairs: no votes", x.other(3), NONE);
        vote(x, 0, "yyn", "nny", "nnn");
        due("pairs: one of all", x.other(3), 0);
        vote(x, 0, "ynn", "nyn", "nny");
        due("pairs: like ones", x.other(3), NONE);
        vote(x, 0, "yy-", "nny", "nn");
        due("pairs: lost votes", x.other(3), 0);
        vote(x, 0, "yy", "nn", "--");
        due("pairs: both must count", x.other(3), NONE);
        vote(x, 1, "yy", "nn", "nn");
        x.lose(0);
        due("pairs: round 0 alone", x.other(3), NONE);
        ScreenVotes kin = new ScreenVotes();
        kin.player(0);
        kin.player(1);
        vote(kin, 0, "yn", "ny");
        due("pairs: kin sits out", kin.other(3), 1);
        kin.jurors(1);
        due("pairs: jurors who vote", kin.other(3), NONE);
        due("pairs: one alone", withPlayers(1).other(3), 0);
    }

    private static void chance() {
        ScreenVotes x = new ScreenVotes();
        for (int q = 0; q < 5; q++) {
            due("chance at first", x.chance(q, 100 - q), 10 + 20 * q);
            due("chance then", x.chance(q, 0), 100 - q);
        }
        due("chance(-1, 0)", x.chance(-1, 0), BAD);
        due("chance(5, 0)", x.chance(5, 0), BAD);
        due("chance(0, -1)", x.chance(0, -1), BAD);
        due("chance(0, 101)", x.chance(0, 101), BAD);
        due("chance unchanged", x.chance(0, 1), 0);
    }

    private static void passes() {
        ScreenVotes x = new ScreenVotes();
        due("passes: 5 jurors", x.passes(2, 60), 500000);
        due("passes: 4 of 5", x.passes(2, 61), 187500);
        due("passes: rounded down", x.passes(1, 80), 30780);
        x.jurors(9);
        due("passes: 9 jurors", x.passes(0, 100), 0);
        due("passes: 9 jurors, 90", x.passes(4, 100), 387420);
        due("passes: any", x.passes(0, 1), 612579);
        x.chance(0, 33);
        due("passes: 33 hundredths", x.passes(0, 56), 40409);
        x.jurors(2);
        due("passes: 2 jurors", x.passes(0, 50), 551100);
        x.jurors(1);
        due("passes: 1 juror", x.passes(0, 100), 330000);
        due("passes(-1, 1)", x.passes(-1, 1), BAD);
        due("passes(5, 1)", x.passes(5, 1), BAD);
        due("passes(0, 0)", x.passes(0, 0), BAD);
        due("passes(0, 101)", x.passes(0, 101), BAD);
    }

    private static void all() {
        ScreenVotes x = new ScreenVotes();
        due("all: BAD before NOT", x.all(5), BAD);
        due("all(-1)", x.all(-1), BAD);
        due("all: NOT", x.all(4), NOT);
        typeText(x, "v80a1n;v80a1n;v80a1n");
        // 30780, then 30780 * 30780 / 1000000 = 947, then 947 * 30780 / 1000000 = 29
        due("all: rounded down each time", x.all(1), 29);
        typeText(x, "v60a1n");
        due("all: one round", x.all(2), x.passes(2, 60));
        typeText(x, "v60a1n;v60a1n");
        due("all: by a million", x.all(2), 250000);
    }

    private static void doubt() {
        ScreenVotes x = new ScreenVotes();
        due("doubt: like shares go upwards", x.doubt(1, 1, 1, 1), 833333);
        due("doubt: at most", x.doubt(0, 2, 2, 0), 166666);
        due("doubt: like shares of unlike sides go upwards", x.doubt(1, 2, 2, 4), 761904);
        due("doubt: like shares the other way round", x.doubt(2, 4, 1, 2), 773809);
        due("doubt: a greater share", x.doubt(3, 2, 1, 4), 261904);
        due("doubt: a greater share of a small side", x.doubt(1, 0, 5, 5), 545454);
        due("doubt: a smaller share of a great side", x.doubt(1, 9, 2, 0), 45454);
        due("doubt: a smaller share, great numbers", x.doubt(5, 1, 15, 2), 616036);
        due("doubt: none with a screen, some without", x.doubt(0, 0, 3, 1), 1000000);
        due("doubt: none without", x.doubt(2, 1, 0, 0), 1000000);
        due("doubt: the rarest", x.doubt(15, 0, 0, 15), 0);
        due("doubt: rare", x.doubt(8, 0, 0, 8), 77);
        due("doubt: the largest", x.doubt(15, 15, 15, 15), 601727);
        for (int k = 0; k < 4; k++) {
            int[] low = new int[4];
            low[k] = -1;
            due("doubt below", x.doubt(low[0], low[1], low[2], low[3]), BAD);
            low[k] = 16;
            due("doubt above", x.doubt(low[0], low[1], low[2], low[3]), BAD);
        }
    }

    private static void morning() {
        ScreenVotes x = withPlayers(5);
        due("morning: NOT", x.morning(0, 0), NOT);
        due("morning: BAD before NOT", x.morning(0, 5), BAD);
        due("morning: BAD round before NOT", x.morning(4, 0), BAD);
        order(x, 1, 0, 2, 3, 4);
        vote(x, 1, "yn", "nn", "yy", "-", "y");
        typeText(x, "v1a1n;v50a1n");
        int[] want = {1, 1, 2, 0};
        for (int what = 0; what < 4; what++) {
            due("morning " + what, x.morning(1, what), want[what]);
        }
        due("morning: false share", x.morning(1, 4), 500000);
        due("morning: no votes", x.morning(0, 3), 0);
        due("morning: no votes, share", x.morning(0, 4), 1000000);
        order(x, 4, 2, 1, 3, 0);
        due("morning: by the order, a", x.morning(1, 0), 2);
        due("morning: by the order, b", x.morning(1, 1), 0);
        due("morning: by the order, c", x.morning(1, 2), 1);
        due("morning: by the order, d", x.morning(1, 3), 1);
        due("morning: no such round", x.morning(2, 0), BAD);
        due("morning: what -1", x.morning(0, -1), BAD);
        due("morning: what 5", x.morning(0, 5), BAD);
        morningShares();
    }

    private static void morningShares() {
        ScreenVotes x = withPlayers(6);
        vote(x, 0, "yyn", "ynnnn", "nn", "yyn", "y", "-");
        typeText(x, "v66a1n");
        due("morning: 2 of 3 are 66 hundredths", x.morning(0, 0), 1);
        due("morning: 1 of 5 are not", x.morning(0, 1), 2);
        due("morning: 2 of 3 behind the half", x.morning(0, 2), 2);
        due("morning: share of 1 2 2 0", x.morning(0, 4), x.doubt(1, 2, 2, 0));
        due("morning: it is", x.morning(0, 4), 300000);
        typeText(x, "v67a1n");
        due("morning: 2 of 3 are not 67 hundredths", x.morning(0, 0), 0);
        due("morning: nor behind the half", x.morning(0, 3), 1);
    }

    private static void trial() {
        ScreenVotes x = withPlayers(8);
        due("trial(-1)", x.trial(-1), BAD);
        due("trial(8)", x.trial(8), BAD);
        for (int place = 0; place < 6; place++) {
            due("trial", x.trial(7 - place), place);
        }
        due("trial: already before FULL", x.trial(7), NOT);
        due("trial: full", x.trial(0), FULL);
        due("trial: BAD before FULL", x.trial(8), BAD);
        due("count(4)", x.count(4), 6);
    }

    private static void week() {
        ScreenVotes x = withPlayers(2);
        due("week: no place", x.week(0, 1), BAD);
        x.trial(1);
        due("week(-1, 0)", x.week(-1, 0), BAD);
        due("week(0, -1)", x.week(0, -1), BAD);
        due("week(0, 21)", x.week(0, 21), BAD);
        for (int w = 1; w <= 10; w++) {
            due("week", x.week(0, 2 * w), w);
        }
        due("week: full", x.week(0, 0), FULL);
        due("week: BAD before FULL", x.week(0, 21), BAD);
    }

    private static void marks(ScreenVotes x, int place, int... marks) {
        for (int mark : marks) {
            x.week(place, mark);
        }
    }

    private static void better() {
        ScreenVotes x = withPlayers(4);
        for (int p = 0; p < 4; p++) {
            x.trial(p);
        }
        due("better: no weeks", x.better(0, 1), NONE);
        marks(x, 0, 1, 1, 20);
        marks(x, 1, 2, 2, 0, 20, 20);
        marks(x, 2, 1, 2, 20);
        due("better: more weeks, not the sum", x.better(1, 0), 1);
        due("better: the other", x.better(0, 1), 0);
        due("better: one week and like ones", x.better(2, 0), 1);
        due("better: like weeks, the sum of both", x.better(2, 1), 1);
        due("better: no week of both", x.better(3, 1), NONE);
        ScreenVotes sums = withPlayers(2);
        sums.trial(0);
        sums.trial(1);
        marks(sums, 0, 9, 1, 5);
        marks(sums, 1, 1, 2, 5, 20);
        due("better: the sum of all weeks of both", sums.better(0, 1), 1);
        due("better: the lesser sum", sums.better(1, 0), 0);
        marks(x, 3, 1, 2);
        due("better: all are like", x.better(2, 3), NONE);
        int[][] bad = {{0, 0}, {-1, 0}, {0, -1}, {4, 0}, {0, 4}, {MOST, LEAST}};
        for (int[] b : bad) {
            due("better bad", x.better(b[0], b[1]), BAD);
        }
    }

    private static void seat() {
        ScreenVotes x = withPlayers(5);
        due("seat: none", x.seat(), NONE);
        x.trial(4);
        due("seat: one alone", x.seat(), 4);
        x.trial(2);
        due("seat: like ones", x.seat(), NONE);
        marks(x, 0, 5, 5);
        marks(x, 1, 6, 6);
        due("seat: the better one", x.seat(), 2);
        x.trial(3);
        due("seat: not better than all", x.seat(), NONE);
        marks(x, 2, 4);
        due("seat: better than all", x.seat(), 2);
        marks(x, 2, 20);
        due("seat: in a ring", x.seat(), 3);
        ScreenVotes ring = withPlayers(3);
        for (int p = 0; p < 3; p++) {
            ring.trial(p);
        }
        marks(ring, 0, 1, 2, 3);
        marks(ring, 1, 2, 3, 1);
        marks(ring, 2, 3, 1, 2);
        due("seat: a ring", ring.seat(), NONE);
    }

    private static void hear() {
        ScreenVotes x = new ScreenVotes();
        int[][] bad = {{-1, 0, 0}, {1000000, 0, 0}, {0, -1, 0}, {0, 100, 0}, {0, 0, -1}, {0, 0, 5}};
        for (int[] b : bad) {
            due("hear bad", x.hear(b[0], b[1], b[2]), BAD);
        }
        for (int i = 1; i <= 60; i++) {
            due("hear", x.hear(i % 2 == 0 ? 999999 : 0, 99, 4), i);
        }
        due("hear: full", x.hear(0, 0, 0), FULL);
        due("hear: BAD before FULL", x.hear(0, 0, 5), BAD);
        due("count(5)", x.count(5), 60);
        due("known of full", x.known(999999, 0), 30);
    }

    private static void known() {
        ScreenVotes x = new ScreenVotes();
        x.hear(7, 3, 0);
        due("known: 0 rounds", x.known(7, 1), 0);
        x.hear(7, 99, 1);
        x.hear(8, 50, 4);
        x.hear(7, 0, 3);
        int[] want = {3, 3, 99};
        for (int what = 0; what < 3; what++) {
            due("known " + what, x.known(7, what), want[what]);
        }
        due("known: never, how often", x.known(9, 0), 0);
        due("known: never, rounds", x.known(9, 1), NONE);
        due("known: never, year", x.known(9, 2), NONE);
        due("known: number 0 is not kept", x.known(0, 0), 0);
        due("known(-1, 0)", x.known(-1, 0), BAD);
        due("known(1000000, 0)", x.known(1000000, 0), BAD);
        due("known(7, -1)", x.known(7, -1), BAD);
        due("known(7, 3)", x.known(7, 3), BAD);
    }

    private static void sheet() {
        ScreenVotes x = new ScreenVotes();
        int[][] bad = {{-1, 0, 0}, {4, 0, 0}, {0, -1, 0}, {0, 3, 0}, {0, 0, 241}, {4, 0, -1}, {0, 3, -1}, {0, 0, MOST}};
        for (int[] b : bad) {
            due("sheet bad", x.sheet(b[0], b[1], b[2]), BAD);
        }
        due("no finding yet", x.count(6), 0);
        due("sheet below 0", x.sheet(0, 2, -1), SIZE);
        due("count(6): size", x.count(6), 5);
        due("sheet least", x.sheet(0, 2, LEAST), SIZE);
        due("it stays lost", x.lose(0), NULL);
        due("sheet of 240", x.sheet(0, 2, 240), 240);
        x.put(0, 2, 239, 5);
        x.put(0, 2, 0, 6);
        due("a size below 0 changes nothing", x.sheet(0, 2, -1), SIZE);
        due("still there", x.get(0, 2, 239), 5);
        due("a shorter one", x.sheet(0, 2, 1), 1);
        due("0 at first", x.get(0, 2, 0), 0);
        due("a longer one", x.sheet(0, 2, 240), 240);
        due("0 at first again", x.get(0, 2, 239), 0);
        due("sheet of 0", x.sheet(3, 0, 0), 0);
        due("lose of 0", x.lose(3), 0);
    }

    private static void lose() {
        ScreenVotes x = new ScreenVotes();
        due("lose(-1)", x.lose(-1), BAD);
        due("lose(4)", x.lose(4), BAD);
        due("no finding by BAD", x.count(6), 0);
        due("lose lost", x.lose(1), NULL);
        due("count(6): null", x.count(6), 1);
        x.sheet(1, 1, 17);
        due("lose", x.lose(1), 17);
        due("lose again", x.lose(1), NULL);
    }

    private static void put() {
        ScreenVotes x = new ScreenVotes();
        due("put lost", x.put(0, 0, -1, 0), NULL);
        x.sheet(0, 0, 2);
        x.sheet(1, 1, 2);
        x.sheet(2, 2, 2);
        due("put cast before index", x.put(0, 1, 2, 0), CAST);
        due("count(6): cast", x.count(6), 3);
        due("put index", x.put(0, 0, 2, 0), INDEX);
        due("count(6): index", x.count(6), 2);
        due("put -1", x.put(0, 0, -1, 0), INDEX);
        due("put most", x.put(2, 2, MOST, 0), INDEX);
        due("put byte", x.put(0, 0, 1, 0x1ff), 1);
        due("get byte", x.get(0, 0, 1), -1);
        due("put short", x.put(1, 1, 0, 0x18000), 1);
        due("get short", x.get(1, 1, 0), -32768);
        due("put int", x.put(2, 2, 0, LEAST), 1);
        due("get int", x.get(2, 2, 0), LEAST);
        int[][] bad = {{-1, 0}, {4, 0}, {0, -1}, {0, 3}};
        for (int[] b : bad) {
            due("put bad", x.put(b[0], b[1], 0, 0), BAD);
        }
        due("BAD is no finding", x.count(6), 2);
        due("the other item", x.get(0, 0, 0), 0);
    }

    private static void get() {
        ScreenVotes x = new ScreenVotes();
        due("get bad sheet", x.get(4, 0, 0), LEAST);
        due("get bad form", x.get(0, 3, 0), LEAST);
        due("get bad below", x.get(-1, -1, 0), LEAST);
        due("BAD is no finding", x.count(6), 0);
        due("get lost", x.get(0, 0, 0), LEAST);
        due("count(6): null", x.count(6), 1);
        x.sheet(0, 1, 3);
        due("get cast", x.get(0, 0, 3), LEAST);
        due("count(6): cast", x.count(6), 3);
        due("get index", x.get(0, 1, 3), LEAST);
        due("count(6): index", x.count(6), 2);
        due("get -1", x.get(0, 1, -1), LEAST);
        x.put(0, 1, 2, 300);
        due("get", x.get(0, 1, 2), 300);
        due("a good call leaves the finding", x.count(6), 2);
    }

    private static void copy() {
        ScreenVotes x = new ScreenVotes();
        due("copy lost", x.copy(0, 0, 0, 0, 0), NULL);
        x.sheet(0, 1, 5);
        due("copy to lost", x.copy(0, 0, 1, 0, 1), NULL);
        due("copy from lost", x.copy(1, 0, 0, 0, 1), NULL);
        x.sheet(1, 2, 5);
        due("copy of unlike forms before index", x.copy(0, -1, 1, 9, -1), STORE);
        due("count(6): store", x.count(6), 4);
        x.sheet(1, 1, 3);
        int[][] index = {{-1, 0, 1}, {0, -1, 1}, {0, 0, -1}, {5, 0, 1}, {0, 3, 1}, {0, 0, 4}, {3, 0, 3}, {0, 1, 3},
            {6, 0, 0}, {0, 4, 0}, {1, 1, MOST}, {MOST, 0, 1}, {0, MOST, MOST}, {0, 0, LEAST}};
        for (int[] b : index) {
            due("copy index " + b[0] + " " + b[1] + " " + b[2], x.copy(0, b[0], 1, b[1], b[2]), INDEX);
        }
        due("count(6): index", x.count(6), 2);
        due("copy of none at the ends", x.copy(0, 5, 1, 3, 0), 1);
        int[][] bad = {{-1, 0}, {4, 0}, {0, -1}, {0, 4}};
        for (int[] b : bad) {
            due("copy bad", x.copy(b[0], 0, b[1], 0, 0), BAD);
        }
        copyItems(x);
    }

    private static void copyItems(ScreenVotes x) {
        for (int i = 0; i < 5; i++) {
            x.put(0, 1, i, 10 + i);
        }
        due("copy", x.copy(0, 2, 1, 0, 3), 1);
        due("copied 0", x.get(1, 1, 0), 12);
        due("copied 2", x.get(1, 1, 2), 14);
        due("copy upwards", x.copy(0, 0, 0, 1, 4), 1);
        int[] up = {10, 10, 11, 12, 13};
        for (int i = 0; i < 5; i++) {
            due("upwards " + i, x.get(0, 1, i), up[i]);
        }
        due("copy downwards", x.copy(0, 2, 0, 0, 3), 1);
        int[] down = {11, 12, 13, 12, 13};
        for (int i = 0; i < 5; i++) {
            due("downwards " + i, x.get(0, 1, i), down[i]);
        }
    }

    private static void count() {
        ScreenVotes x = withPlayers(3);
        x.jurors(7);
        typeText(x, "v1a1a;v1a1a");
        x.trial(2);
        x.trial(0);
        x.hear(1, 1, 1);
        x.lose(0);
        int[] want = {3, 7, 11, 2, 2, 1, 1};
        for (int what = 0; what < 7; what++) {
            due("count " + what, x.count(what), want[what]);
        }
        due("count(-1)", x.count(-1), BAD);
        due("count(7)", x.count(7), BAD);
    }

    private static void digest() {
        ScreenVotes x = withPlayers(3);
        due("digest again", x.digest(), digestByCalls(x));
        order(x, 2, 0, 1);
        vote(x, 0, "yyn", "nny", "y");
        vote(x, 3, "y", "yy", "yyy");
        x.trial(1);
        x.hear(1, 2, 3);
        due("digest of a fault", x.digest(), digestByCalls(x));
        typeText(x, "v50a1n");
        due("digest of a bylaw", x.digest(), digestByCalls(x));
        long before = x.digest();
        x.lose(1);
        due("digest without findings", x.digest(), before);
    }

    private static long digestByCalls(ScreenVotes x) {
        long h = 17;
        for (int what = 0; what < 6; what++) {
            h = h * 31 + x.count(what);
        }
        int n = x.count(0);
        for (int i = 0; i < n; i++) {
            h = h * 31 + x.order(i);
        }
        for (int k = 0; k < 8 * n; k++) {
            h = h * 31 + x.votes(k / 8, k / 2 % 4, k % 2);
        }
        return (h * 31 + x.chosen()) * 31 + x.seat();
    }

    private static void refusalsChangeNothing() {
        ScreenVotes x = withPlayers(2);
        typeText(x, "v1a1a");
        x.trial(0);
        x.sheet(0, 0, 3);
        long before = x.digest();
        x.player(-1);
        x.jurors(0);
        x.type(-1);
        x.chance(0, 101);
        x.trial(0);
        x.week(0, 21);
        x.hear(-1, 0, 0);
        x.sheet(0, 0, 241);
        x.sheet(0, 0, -1);
        x.put(0, 1, 0, 1);
        x.put(0, 0, 3, 1);
        x.copy(0, 0, 1, 0, 1);
        due("digest after refusals", x.digest(), before);
        due("chance after a refusal", x.chance(0, 10), 10);
        due("the sheet after refusals", x.lose(0), 3);
    }

    public static void main(String[] args) {
        newObject();
        player();
        jurors();
        draw();
        order();
        votes();
        type();
        repeal();
        fault();
        law();
        advance();
        through();
        chosen();
        other();
        chance();
        passes();
        all();
        doubt();
        morning();
        trial();
        week();
        better();
        seat();
        hear();
        known();
        sheet();
        lose();
        put();
        get();
        copy();
        count();
        digest();
        refusalsChangeNothing();
        System.out.println(wrong == 0 ? "all promises hold" : wrong + " answers are not as due");
        if (wrong != 0) {
            System.exit(1);
        }
    }
}
