/** Players heard behind a screen: their votes, the bylaw, the chances, the trials, who was heard before. */
public final class ScreenVotes {
    public static final int NONE = -1, BAD = -2, NOT = -3, FULL = -4;

    private static final int FINE = 0, LEAST_INT = -2147483648;

    private final Sheets sheets;
    private final Panel panel;
    private final Bylaw bylaw;
    private final Contest contest;
    private final OtherRules otherRules;
    private final Mornings mornings;
    private final Trials trials;
    private final Heard heard;
    private final int[] chances;

    public ScreenVotes() {
        sheets = new Sheets();
        panel = new Panel(sheets);
        bylaw = new Bylaw();
        contest = new Contest(panel, bylaw);
        otherRules = new OtherRules(panel, bylaw);
        mornings = new Mornings(panel, bylaw);
        trials = new Trials();
        heard = new Heard();
        chances = new int[] {10, 30, 50, 70, 90};
    }

    // ---- players, jurors

    public int player(int kin) {
        if (!within(kin, 0, Panel.ALL_KIN)) {
            return BAD;
        }
        return panel.players < Panel.MOST_PLAYERS ? panel.addPlayer(kin) : FULL;
    }

    public int jurors(int j) {
        if (!within(j, 1, Panel.MOST_JURORS)) {
            return BAD;
        }
        int before = panel.voting;
        panel.voting = j;
        return before;
    }

    public int draw(int seed) {
        panel.shuffle(seed);
        return panel.players > 0 ? panel.row[0] : NONE;
    }

    public int order(int i) {
        return isPlayer(i) ? panel.row[i] : BAD;
    }

    public int votes(int player, int round, int what) {
        if (!isPlayer(player) || !isRound(round) || !within(what, 0, 1)) {
            return BAD;
        }
        return what == 0 ? panel.countingVotes(player, round) : panel.yesVotes(player, round);
    }

    // ---- the bylaw

    public int type(int b) {
        if (!within(b, 0, 255)) {
            return BAD;
        }
        return bylaw.length < Bylaw.MOST_BYTES ? bylaw.append(b) : FULL;
    }

    public int repeal() {
        return bylaw.clear();
    }

    public int fault() {
        return bylaw.faultPlace;
    }

    public int law(int round, int what) {
        if (!within(what, 0, 2)) {
            return BAD;
        }
        int refusal = refusalOfRound(round);
        if (refusal != FINE) {
            return refusal;
        }
        if (what == 0) {
            return bylaw.hundredths[round];
        }
        return what == 1 ? bylaw.seats[round] : bylaw.letters[round];
    }

    public int advance(int round) {
        int refusal = refusalOfRound(round);
        return refusal == FINE ? Integer.bitCount(contest.advancedOutOf(round)) : refusal;
    }

    public int through(int round) {
        int refusal = refusalOfRound(round);
        return refusal == FINE ? contest.advancedOutOf(round) : refusal;
    }

    public int chosen() {
        if (bylaw.rounds == 0) {
            return NOT;
        }
        int last = contest.advancedOutOf(bylaw.rounds - 1);
        for (int p = 0; p < panel.players; p++) {
            if (last == 1 << p) {
                return p;
            }
        }
        return NONE;
    }

    public int other(int rule) {
        if (!within(rule, 1, 3)) {
            return BAD;
        }
        if (rule == 3) {
            return otherRules.winnerOfAllPairs();
        }
        if (bylaw.rounds == 0) {
            return NOT;
        }
        return rule == 1 ? otherRules.mostYes() : otherRules.greatestShare();
    }

    // ---- chances, doubts

    public int chance(int skill, int hundredths) {
        if (!isSkill(skill) || !within(hundredths, 0, 100)) {
            return BAD;
        }
        int before = chances[skill];
        chances[skill] = hundredths;
        return before;
    }

    public int passes(int skill, int x) {
        if (!isSkill(skill) || !within(x, 1, 100)) {
            return BAD;
        }
        return Odds.ofPassing(panel.voting, chances[skill], x);
    }

    public int all(int skill) {
        if (!isSkill(skill)) {
            return BAD;
        }
        if (bylaw.rounds == 0) {
            return NOT;
        }
        long share = Odds.MILLION;
        for (int r = 0; r < bylaw.rounds; r++) {
            share = share * Odds.ofPassing(panel.voting, chances[skill], bylaw.hundredths[r]) / Odds.MILLION;
        }
        return (int) share;
    }

    public int doubt(int a, int b, int c, int d) {
        if (!inTable(a) || !inTable(b) || !inTable(c) || !inTable(d)) {
            return BAD;
        }
        return Odds.falseShare(a, b, c, d);
    }

    public int morning(int round, int what) {
        if (!within(what, 0, 4)) {
            return BAD;
        }
        int refusal = refusalOfRound(round);
        return refusal == FINE ? mornings.tell(round, what) : refusal;
    }

    // ---- trials

    public int trial(int player) {
        if (!isPlayer(player)) {
            return BAD;
        }
        if (trials.has(player)) {
            return NOT;
        }
        return trials.places < Trials.MOST_PLACES ? trials.open(player) : FULL;
    }

    public int week(int place, int mark) {
        if (!isPlace(place) || !within(mark, 0, 20)) {
            return BAD;
        }
        return trials.weeks[place] < Trials.MOST_WEEKS ? trials.addMark(place, mark) : FULL;
    }

    public int better(int place, int other) {
        if (!isPlace(place) || !isPlace(other) || place == other) {
            return BAD;
        }
        int lead = trials.lead(place, other);
        if (lead == 0) {
            return NONE;
        }
        return lead > 0 ? 1 : 0;
    }

    public int seat() {
        return trials.seated();
    }

    // ---- heard before

    public int hear(int number, int year, int rounds) {
        if (!isNumber(number) || !within(year, 0, 99) || !within(rounds, 0, 4)) {
            return BAD;
        }
        return heard.kept < Heard.MOST_KEPT ? heard.keep(number, year, rounds) : FULL;
    }

    public int known(int number, int what) {
        if (!isNumber(number) || !within(what, 0, 2)) {
            return BAD;
        }
        if (what == 0) {
            return heard.howOften(number);
        }
        return heard.greatest(number, what == 1 ? heard.rounds : heard.years);
    }

    // ---- sheets

    public int sheet(int s, int form, int n) {
        if (!isSheet(s) || !isForm(form) || n > Sheets.MOST_ITEMS) {
            return BAD;
        }
        return n < 0 ? sheets.found(Sheets.SIZE) : sheets.lay(s, form, n);
    }

    public int lose(int s) {
        if (!isSheet(s)) {
            return BAD;
        }
        return sheets.isLost(s) ? sheets.found(Sheets.NULL) : sheets.drop(s);
    }

    public int put(int s, int form, int i, int v) {
        if (!isSheet(s) || !isForm(form)) {
            return BAD;
        }
        int finding = sheets.findingOfItem(s, form, i);
        if (finding != FINE) {
            return sheets.found(finding);
        }
        sheets.items[s][i] = Sheets.lowestBits(form, v);
        return 1;
    }

    public int get(int s, int form, int i) {
        if (!isSheet(s) || !isForm(form)) {
            return LEAST_INT;
        }
        int finding = sheets.findingOfItem(s, form, i);
        if (finding != FINE) {
            sheets.found(finding);
            return LEAST_INT;
        }
        return sheets.items[s][i];
    }

    public int copy(int s, int i, int t, int j, int n) {
        if (!isSheet(s) || !isSheet(t)) {
            return BAD;
        }
        int finding = sheets.findingOfSheets(s, t);
        if (finding == FINE && !(sheets.hasSpan(s, i, n) && sheets.hasSpan(t, j, n))) {
            finding = Sheets.INDEX;
        }
        if (finding != FINE) {
            return sheets.found(finding);
        }
        System.arraycopy(sheets.items[s], i, sheets.items[t], j, n);
        return 1;
    }

    public int count(int what) {
        switch (what) {
            case 0:
                return panel.players;
            case 1:
                return panel.voting;
            case 2:
                return bylaw.length;
            case 3:
                return bylaw.rounds;
            case 4:
                return trials.places;
            case 5:
                return heard.kept;
            case 6:
                return sheets.latestFinding;
            default:
                return BAD;
        }
    }

    public long digest() {
        long h = 17;
        for (int what = 0; what <= 5; what++) {
            h = 31 * h + count(what);
        }
        for (int i = 0; i < panel.players; i++) {
            h = 31 * h + panel.row[i];
        }
        for (int p = 0; p < panel.players; p++) {
            for (int r = 0; r < Bylaw.MOST_ROUNDS; r++) {
                h = 31 * h + panel.countingVotes(p, r);
                h = 31 * h + panel.yesVotes(p, r);
            }
        }
        h = 31 * h + chosen();
        return 31 * h + seat();
    }

    private static boolean within(int number, int least, int most) {
        return number >= least && number <= most;
    }

    private static boolean isRound(int round) {
        return within(round, 0, Bylaw.MOST_ROUNDS - 1);
    }

    private static boolean isSheet(int s) {
        return within(s, 0, Sheets.ROWS - 1);
    }

    private static boolean isForm(int form) {
        return within(form, Sheets.BYTES, Sheets.INTS);
    }

    private static boolean inTable(int number) {
        return within(number, 0, 15);
    }

    private static boolean isNumber(int number) {
        return within(number, 0, 999999);
    }

    private boolean isSkill(int skill) {
        return within(skill, 0, chances.length - 1);
    }

    private boolean isPlayer(int player) {
        return within(player, 0, panel.players - 1);
    }

    private boolean isPlace(int place) {
        return within(place, 0, trials.places - 1);
    }

    /** A faulty bylaw has no rounds to miss, so a round that could be one is NOT there before it is BAD. */
    private int refusalOfRound(int round) {
        if (!isRound(round)) {
            return BAD;
        }
        if (bylaw.rounds == 0) {
            return NOT;
        }
        return round < bylaw.rounds ? FINE : BAD;
    }

    /** Every row has room for the longest sheet and is used again, so that no call makes a new one. */
    private static final class Sheets {
        static final int ROWS = 4, MOST_ITEMS = 240;
        static final int BYTES = 0, SHORTS = 1, INTS = 2;
        static final int NULL = 1, INDEX = 2, CAST = 3, STORE = 4, SIZE = 5;
        static final int NO = 0, YES = 1, LOST_VOTE = -1;
        private static final int LOST = -1;

        private final int[][] items = new int[ROWS][MOST_ITEMS];
        private final int[] forms = {LOST, LOST, LOST, LOST};
        private final int[] sizes = new int[ROWS];
        private int latestFinding;

        boolean isLost(int s) {
            return forms[s] == LOST;
        }

        int found(int finding) {
            latestFinding = finding;
            return -10 - finding;
        }

        int lay(int s, int form, int n) {
            forms[s] = form;
            sizes[s] = n;
            for (int i = 0; i < n; i++) {
                items[s][i] = 0;
            }
            return n;
        }

        int drop(int s) {
            int had = sizes[s];
            forms[s] = LOST;
            sizes[s] = 0;
            return had;
        }

        int findingOfItem(int s, int form, int i) {
            if (isLost(s)) {
                return NULL;
            }
            if (forms[s] != form) {
                return CAST;
            }
            return i >= 0 && i < sizes[s] ? FINE : INDEX;
        }

        int findingOfSheets(int s, int t) {
            if (isLost(s) || isLost(t)) {
                return NULL;
            }
            return forms[s] == forms[t] ? FINE : STORE;
        }

        /** Subtracts where a sum of two ints could wrap. */
        boolean hasSpan(int s, int from, int n) {
            return from >= 0 && n >= 0 && from <= sizes[s] && n <= sizes[s] - from;
        }

        static int lowestBits(int form, int v) {
            if (form == BYTES) {
                return (byte) v;
            }
            return form == SHORTS ? (short) v : v;
        }

        /** A lost sheet has the size 0, so its votes are lost like those behind a sheet's end. */
        int voteAt(int s, int item) {
            if (item >= sizes[s] || items[s][item] < 0) {
                return LOST_VOTE;
            }
            return items[s][item] > 0 ? YES : NO;
        }
    }

    /** Players and jurors, and what the one say of the other. */
    private static final class Panel {
        static final int MOST_PLAYERS = 24, MOST_JURORS = 9, ALL_KIN = 511;

        private final Sheets sheets;
        private final int[] kin = new int[MOST_PLAYERS];
        private final int[] row = new int[MOST_PLAYERS];
        private final int[] placeInRow = new int[MOST_PLAYERS];
        private int players;
        private int voting = 5;

        Panel(Sheets sheets) {
            this.sheets = sheets;
        }

        int addPlayer(int kinBits) {
            int number = players;
            kin[number] = kinBits;
            place(number, number);
            players++;
            return number;
        }

        void shuffle(int seed) {
            for (int p = 0; p < players; p++) {
                place(p, p);
            }
            int lot = seed;
            for (int i = players - 1; i >= 1; i--) {
                lot = 1103515245 * lot + 12345;
                int j = (lot >>> 16) % (i + 1);
                int moved = row[i];
                place(row[j], i);
                place(moved, j);
            }
        }

        private void place(int player, int at) {
            row[at] = player;
            placeInRow[player] = at;
        }

        int everyone() {
            return (1 << players) - 1;
        }

        /** A vote that doesn't count is a lost one, whether its sheet lacks it or the juror sits out. */
        int countingVote(int player, int juror, int round) {
            if ((kin[player] >> juror & 1) != 0) {
                return Sheets.LOST_VOTE;
            }
            return sheets.voteAt(round, MOST_JURORS * player + juror);
        }

        int countingVotes(int player, int round) {
            int votes = 0;
            for (int j = 0; j < voting; j++) {
                if (countingVote(player, j, round) != Sheets.LOST_VOTE) {
                    votes++;
                }
            }
            return votes;
        }

        int yesVotes(int player, int round) {
            int yes = 0;
            for (int j = 0; j < voting; j++) {
                if (countingVote(player, j, round) == Sheets.YES) {
                    yes++;
                }
            }
            return yes;
        }

        int jurorsOnPart(int player, int rival, int round) {
            int jurors = 0;
            for (int j = 0; j < voting; j++) {
                boolean forPlayer = countingVote(player, j, round) == Sheets.YES;
                if (forPlayer && countingVote(rival, j, round) == Sheets.NO) {
                    jurors++;
                }
            }
            return jurors;
        }
    }

    /** The text, read anew after each change; with a fault it has no rounds. */
    private static final class Bylaw {
        static final int MOST_BYTES = 60, MOST_ROUNDS = 4;
        private static final int MOST_FIGURES = 3;

        private final int[] text = new int[MOST_BYTES];
        private final int[] hundredths = new int[MOST_ROUNDS];
        private final int[] seats = new int[MOST_ROUNDS];
        private final int[] letters = new int[MOST_ROUNDS];
        private int length;
        private int rounds;
        private int faultPlace;
        private int cursor;
        private int number;

        int append(int b) {
            text[length] = b;
            length++;
            readText();
            return length;
        }

        int clear() {
            int had = length;
            length = 0;
            readText();
            return had;
        }

        private void readText() {
            rounds = 0;
            cursor = 0;
            faultPlace = readRounds() ? NONE : cursor;
        }

        /** Where it can't go on, the cursor stays at the fault. */
        private boolean readRounds() {
            for (int r = 0; r < MOST_ROUNDS; r++) {
                if (!readRound(r)) {
                    return false;
                }
                if (cursor == length) {
                    rounds = r + 1;
                    return true;
                }
                if (r == MOST_ROUNDS - 1 || !readByte(';')) {
                    return false;
                }
            }
            return false;
        }

        private boolean readRound(int r) {
            if (!readByte('v') || !readNumber(100)) {
                return false;
            }
            hundredths[r] = number;
            if (!readByte('a') || !readNumber(24)) {
                return false;
            }
            seats[r] = number;
            return readLetter(r);
        }

        private boolean readByte(int b) {
            if (cursor >= length || text[cursor] != b) {
                return false;
            }
            cursor++;
            return true;
        }

        private boolean readLetter(int r) {
            letters[r] = cursor < length ? text[cursor] : NONE;
            return readByte('a') || readByte('n') || readByte('d') || readByte('s');
        }

        /** A fourth figure is no part of a number, but what comes behind it; one that may not be stays unread. */
        private boolean readNumber(int most) {
            int end = cursor;
            number = 0;
            for (int figures = 0; figures < MOST_FIGURES && isFigure(end); figures++) {
                number = 10 * number + text[end] - '0';
                end++;
            }
            boolean mayBe = number >= 1 && number <= most;
            if (mayBe) {
                cursor = end;
            }
            return mayBe;
        }

        private boolean isFigure(int at) {
            return at < length && text[at] >= '0' && text[at] <= '9';
        }
    }

    /** The rounds as the bylaw has them; sets of players are bits. */
    private static final class Contest {
        private final Panel panel;
        private final Bylaw bylaw;
        private final int[] votes = new int[Panel.MOST_PLAYERS];
        private final int[] yes = new int[Panel.MOST_PLAYERS];
        private final int[] yesSoFar = new int[Panel.MOST_PLAYERS];

        Contest(Panel panel, Bylaw bylaw) {
            this.panel = panel;
            this.bylaw = bylaw;
        }

        int advancedOutOf(int round) {
            for (int p = 0; p < panel.players; p++) {
                yesSoFar[p] = 0;
            }
            int in = panel.everyone();
            for (int r = 0; r <= round; r++) {
                tally(r);
                in = whoAdvance(r, whoPass(r, in));
            }
            return in;
        }

        private void tally(int r) {
            for (int p = 0; p < panel.players; p++) {
                votes[p] = panel.countingVotes(p, r);
                yes[p] = panel.yesVotes(p, r);
                yesSoFar[p] += yes[p];
            }
        }

        private int whoPass(int r, int in) {
            int passing = 0;
            for (int p = 0; p < panel.players; p++) {
                boolean heard = has(in, p) && votes[p] > 0;
                if (heard && 100 * yes[p] >= bylaw.hundredths[r] * votes[p]) {
                    passing |= 1 << p;
                }
            }
            return passing;
        }

        private int whoAdvance(int r, int passing) {
            int sure = 0;
            int tied = 0;
            int left = 0;
            for (int p = 0; p < panel.players; p++) {
                if (!has(passing, p)) {
                    continue;
                }
                int above = withShare(passing, p, 1);
                if (above + withShare(passing, p, 0) <= bylaw.seats[r]) {
                    sure |= 1 << p;
                } else if (above < bylaw.seats[r]) {
                    tied |= 1 << p;
                    left = bylaw.seats[r] - above;
                }
            }
            return sure | outOfTie(bylaw.letters[r], tied, left);
        }

        /** How many of a set have a share that is greater (1) than a player's, or the same (0). */
        private int withShare(int set, int player, int sign) {
            int found = 0;
            for (int q = 0; q < panel.players; q++) {
                if (has(set, q) && compareShares(q, player) == sign) {
                    found++;
                }
            }
            return found;
        }

        private int compareShares(int q, int p) {
            return Integer.compare(yes[q] * votes[p], yes[p] * votes[q]);
        }

        private int outOfTie(int letter, int tied, int left) {
            switch (letter) {
                case 'a':
                    return tied;
                case 'd':
                    return firstOf(tied, left, false);
                case 's':
                    return firstOf(tied, left, true);
                default:
                    return 0;
            }
        }

        private int firstOf(int tied, int left, boolean byYes) {
            int first = 0;
            for (int p = 0; p < panel.players; p++) {
                if (has(tied, p) && ahead(tied, p, byYes) < left) {
                    first |= 1 << p;
                }
            }
            return first;
        }

        private int ahead(int tied, int player, boolean byYes) {
            int ahead = 0;
            for (int q = 0; q < panel.players; q++) {
                if (has(tied, q) && isBefore(q, player, byYes)) {
                    ahead++;
                }
            }
            return ahead;
        }

        private boolean isBefore(int q, int p, boolean byYes) {
            if (byYes && yesSoFar[q] != yesSoFar[p]) {
                return yesSoFar[q] > yesSoFar[p];
            }
            return panel.placeInRow[q] < panel.placeInRow[p];
        }

        private static boolean has(int set, int player) {
            return (set >> player & 1) != 0;
        }
    }

    /** Goes by the order's places, so that the first of like ones stays. */
    private static final class OtherRules {
        private final Panel panel;
        private final Bylaw bylaw;

        OtherRules(Panel panel, Bylaw bylaw) {
            this.panel = panel;
            this.bylaw = bylaw;
        }

        int mostYes() {
            int best = NONE;
            int most = -1;
            for (int i = 0; i < panel.players; i++) {
                int yes = yesInAll(panel.row[i]);
                if (yes > most) {
                    most = yes;
                    best = panel.row[i];
                }
            }
            return best;
        }

        int greatestShare() {
            int best = NONE;
            int bestYes = 0;
            int bestVotes = 0;
            for (int i = 0; i < panel.players; i++) {
                int yes = yesInAll(panel.row[i]);
                int votes = votesInAll(panel.row[i]);
                boolean greater = best == NONE || yes * bestVotes > bestYes * votes;
                if (votes > 0 && greater) {
                    best = panel.row[i];
                    bestYes = yes;
                    bestVotes = votes;
                }
            }
            return best;
        }

        int winnerOfAllPairs() {
            for (int p = 0; p < panel.players; p++) {
                if (winsAllPairs(p)) {
                    return p;
                }
            }
            return NONE;
        }

        private boolean winsAllPairs(int p) {
            for (int q = 0; q < panel.players; q++) {
                if (q != p && panel.jurorsOnPart(p, q, 0) <= panel.jurorsOnPart(q, p, 0)) {
                    return false;
                }
            }
            return true;
        }

        private int yesInAll(int player) {
            int yes = 0;
            for (int r = 0; r < bylaw.rounds; r++) {
                yes += panel.yesVotes(player, r);
            }
            return yes;
        }

        private int votesInAll(int player) {
            int votes = 0;
            for (int r = 0; r < bylaw.rounds; r++) {
                votes += panel.countingVotes(player, r);
            }
            return votes;
        }
    }

    /** The table of a round's first half of the order and of its second one. */
    private static final class Mornings {
        private final Panel panel;
        private final Bylaw bylaw;
        private final int[] table = new int[4];

        Mornings(Panel panel, Bylaw bylaw) {
            this.panel = panel;
            this.bylaw = bylaw;
        }

        int tell(int round, int what) {
            fill(round);
            if (what < table.length) {
                return table[what];
            }
            return Odds.falseShare(table[0], table[1], table[2], table[3]);
        }

        private void fill(int round) {
            for (int k = 0; k < table.length; k++) {
                table[k] = 0;
            }
            for (int i = 0; i < panel.players; i++) {
                int votes = panel.countingVotes(panel.row[i], round);
                int yes = panel.yesVotes(panel.row[i], round);
                int side = i < panel.players / 2 ? 0 : 2;
                if (votes > 0) {
                    table[100 * yes >= bylaw.hundredths[round] * votes ? side : side + 1]++;
                }
            }
        }
    }

    /** Exact shares, in millionths, rounded down. */
    private static final class Odds {
        static final int MILLION = 1000000;

        private Odds() {
        }

        /** All ways are 100 to the jurors, at most 10 to the 18: a long holds them, but not times a million. */
        static int ofPassing(int jurors, int chance, int x) {
            long ways = 0;
            for (int yes = 0; yes <= jurors; yes++) {
                if (100 * yes >= x * jurors) {
                    ways += choose(jurors, yes) * power(chance, yes) * power(100 - chance, jurors - yes);
                }
            }
            // A million is 100 to the 3: only the jurors beyond three, or lacking to three, are left to scale by.
            for (int j = jurors; j < 3; j++) {
                ways *= 100;
            }
            for (int j = jurors; j > 3; j--) {
                ways /= 100;
            }
            return (int) ways;
        }

        static int falseShare(int a, int b, int c, int d) {
            boolean upwards = isNotBelow(a, b, c, d);
            long fitting = 0;
            long all = 0;
            for (int k = 0; k <= a + b; k++) {
                long ways = choose(a + c, k) * choose(b + d, a + b - k);
                all += ways;
                if (upwards ? k >= a : k <= a) {
                    fitting += ways;
                }
            }
            return millionths(fitting, all);
        }

        private static boolean isNotBelow(int a, int b, int c, int d) {
            if (a + b == 0) {
                return c == 0;
            }
            return a * (c + d) >= c * (a + b);
        }

        /** Figure by figure, as a part times a million would not fit into a long. */
        private static int millionths(long part, long whole) {
            if (whole <= 0) {
                return 0;
            }
            long share = part / whole;
            long rest = part % whole;
            for (int figure = 0; figure < 6; figure++) {
                rest *= 10;
                share = 10 * share + rest / whole;
                rest %= whole;
            }
            return (int) share;
        }

        private static long choose(int n, int k) {
            if (k < 0 || k > n) {
                return 0;
            }
            long ways = 1;
            for (int i = 1; i <= k; i++) {
                ways = ways * (n - k + i) / i;
            }
            return ways;
        }

        private static long power(int base, int exponent) {
            long product = 1;
            for (int i = 0; i < exponent; i++) {
                product *= base;
            }
            return product;
        }
    }

    /** Players on trial, by places, and their marks. */
    private static final class Trials {
        static final int MOST_PLACES = 6, MOST_WEEKS = 10;

        private final int[] onTrial = new int[MOST_PLACES];
        private final int[] weeks = new int[MOST_PLACES];
        private final int[][] marks = new int[MOST_PLACES][MOST_WEEKS];
        private int places;

        boolean has(int player) {
            for (int i = 0; i < places; i++) {
                if (onTrial[i] == player) {
                    return true;
                }
            }
            return false;
        }

        int open(int player) {
            int place = places;
            onTrial[place] = player;
            places++;
            return place;
        }

        int addMark(int place, int mark) {
            marks[place][weeks[place]] = mark;
            weeks[place]++;
            return weeks[place];
        }

        /** Above 0: the one is better; below 0: the other; 0: neither. */
        int lead(int one, int other) {
            int won = 0;
            int sums = 0;
            for (int w = 0; w < weeks[one] && w < weeks[other]; w++) {
                won += Integer.compare(marks[one][w], marks[other][w]);
                sums += marks[one][w] - marks[other][w];
            }
            return won != 0 ? won : sums;
        }

        int seated() {
            for (int place = 0; place < places; place++) {
                if (leadsAll(place)) {
                    return onTrial[place];
                }
            }
            return NONE;
        }

        private boolean leadsAll(int place) {
            for (int rival = 0; rival < places; rival++) {
                if (rival != place && lead(place, rival) <= 0) {
                    return false;
                }
            }
            return true;
        }
    }

    /** Who was heard before, a row each time. */
    private static final class Heard {
        static final int MOST_KEPT = 60;

        private final int[] numbers = new int[MOST_KEPT];
        private final int[] years = new int[MOST_KEPT];
        private final int[] rounds = new int[MOST_KEPT];
        private int kept;

        int keep(int number, int year, int throughRounds) {
            numbers[kept] = number;
            years[kept] = year;
            rounds[kept] = throughRounds;
            kept++;
            return kept;
        }

        int howOften(int number) {
            int times = 0;
            for (int i = 0; i < kept; i++) {
                if (numbers[i] == number) {
                    times++;
                }
            }
            return times;
        }

        int greatest(int number, int[] column) {
            int greatest = NONE;
            for (int i = 0; i < kept; i++) {
                if (numbers[i] == number) {
                    greatest = Math.max(greatest, column[i]);
                }
            }
            return greatest;
        }
    }
}
