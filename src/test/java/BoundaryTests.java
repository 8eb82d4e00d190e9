import java.lang.reflect.InvocationTargetException;
import java.lang.reflect.Method;
import java.util.ArrayList;
import java.util.Arrays;
import java.util.HashMap;
import java.util.List;
import java.util.Map;
import java.util.regex.Matcher;
import java.util.regex.Pattern;

/**
 * Each sentence of the document that names a boundary case has a run of calls of its own here, told as a text.
 *
 * A row is a call, with the answer that is due behind it or none: player(512) BAD. Before it may stand how often it is
 * called (24 * player(0)); a + behind the answer lets it grow by one each time. Rows of other kinds:
 * text "v1a1a" (a new bylaw), ballot 0 yn- (round 0: a word for each player, a letter for each juror: yes, no, lost;
 * who has no letter is lost), order 2 0 1 (a seed that draws this order).
 *
 * Where a row's answer is a refusal, or its call is one that only tells, the same run is made twice more, with the call
 * and without it, and both objects are asked for all that they hold: nothing may differ but the latest finding.
 */
public final class BoundaryTests {
    private static final int MOST_CALLS = 512;
    private static final List<String> FINDINGS = List.of("NULL", "INDEX", "CAST", "STORE", "SIZE");
    private static final List<String> REFUSALS = List.of("BAD", "NOT", "FULL");
    private static final List<String> TELLING = List.of("order", "votes", "fault", "law", "advance", "through", "chosen",
        "other", "passes", "all", "doubt", "morning", "better", "seat", "known", "get", "count", "digest");
    private static final Map<String, Long> WORDS = new HashMap<>();
    private static final Map<String, Method> FACE = new HashMap<>();
    private static final Pattern CALL = Pattern.compile("(?:(\\d+) \\* )?(\\w+)\\(([^)]*)\\)(?: (\\S+?)(\\+?))?");
    private static int wrong = 0;
    private static int sentences = 0;
    private static int twins = 0;

    private record Call(String row, String name, Object[] arguments, String word, long want) {
        boolean isFinding() {
            return FINDINGS.contains(word);
        }

        boolean changesNothing() {
            return isFinding() || REFUSALS.contains(word) || !word.isEmpty() && TELLING.contains(name);
        }
    }

    // ---- how a run is read

    private static long number(String word) {
        return WORDS.containsKey(word) ? WORDS.get(word) : Long.parseLong(word);
    }

    private static List<Call> read(String script) {
        List<Call> calls = new ArrayList<>();
        int jurors = 5;
        for (String line : script.lines().map(String::strip).filter(l -> !l.isEmpty()).toList()) {
            String[] words = line.split(" ");
            if (words[0].equals("text")) {
                readText(calls, line);
            } else if (words[0].equals("ballot")) {
                readBallot(calls, line, words, jurors);
            } else if (words[0].equals("order")) {
                int[] row = Arrays.stream(words).skip(1).mapToInt(Integer::parseInt).toArray();
                calls.add(call(line, "draw", "", 0, seedFor(row)));
            } else {
                readCall(calls, line);
            }
            Matcher voting = Pattern.compile("jurors\\(([1-9])\\).*").matcher(line);
            jurors = voting.matches() ? Integer.parseInt(voting.group(1)) : jurors;
        }
        return calls;
    }

    private static Call call(String row, String name, String word, long want, int... arguments) {
        return new Call(row, name, Arrays.stream(arguments).boxed().toArray(), word, want);
    }

    private static void readCall(List<Call> calls, String line) {
        Matcher m = CALL.matcher(line);
        if (!m.matches()) {
            throw new IllegalArgumentException(line);
        }
        int times = m.group(1) == null ? 1 : Integer.parseInt(m.group(1));
        String word = m.group(4) == null ? "" : m.group(4);
        String[] given = m.group(3).isEmpty() ? new String[0] : m.group(3).split(", *");
        int[] arguments = Arrays.stream(given).mapToInt(w -> (int) number(w)).toArray();
        for (int time = 0; time < times; time++) {
            long want = word.isEmpty() ? 0 : number(word) + ("+".equals(m.group(5)) ? time : 0);
            boolean leastInt = m.group(2).equals("get") && (FINDINGS.contains(word) || REFUSALS.contains(word));
            calls.add(call(line, m.group(2), word, leastInt ? Integer.MIN_VALUE : want, arguments));
        }
    }

    private static void readText(List<Call> calls, String line) {
        calls.add(call(line, "repeal", "", 0));
        for (char b : line.substring(line.indexOf('"') + 1, line.lastIndexOf('"')).toCharArray()) {
            calls.add(call(line, "type", "", 0, b));
        }
    }

    private static void readBallot(List<Call> calls, String line, String[] words, int jurors) {
        int round = Integer.parseInt(words[1]);
        calls.add(call(line, "sheet", "", 0, round, 0, 9 * (words.length - 2)));
        for (int p = 0; p < words.length - 2; p++) {
            String word = words[p + 2];
            for (int j = 0; j < Math.max(jurors, word.length()); j++) {
                char vote = j < word.length() ? word.charAt(j) : '-';
                if (vote != 'n') {
                    calls.add(call(line, "put", "", 0, round, 0, 9 * p + j, vote == 'y' ? 1 : -1));
                }
            }
        }
    }

    private static int[] drawn(int players, int seed) {
        int[] row = new int[players];
        for (int i = 0; i < players; i++) {
            row[i] = i;
        }
        long lot = seed;
        for (int i = players - 1; i >= 1; i--) {
            lot = lot * 1103515245L + 12345L & 0xffffffffL;
            int j = (int) (lot / 65536 % (i + 1));
            int moved = row[i];
            row[i] = row[j];
            row[j] = moved;
        }
        return row;
    }

    private static int seedFor(int[] row) {
        int seed = 0;
        while (!Arrays.equals(drawn(row.length, seed), row)) {
            seed++;
        }
        return seed;
    }

    // ---- how a run is made

    private static void due(String told, long got, long want) {
        if (got != want) {
            wrong++;
            System.out.println(told + ": answered " + got + ", due is " + want);
        }
    }

    private static long answer(ScreenVotes x, Call call) {
        try {
            return ((Number) FACE.get(call.name).invoke(x, call.arguments)).longValue();
        } catch (InvocationTargetException e) {
            wrong++;
            System.out.println(call.row + " threw " + e.getCause());
            return 0;
        } catch (IllegalAccessException e) {
            throw new IllegalStateException(e);
        }
    }

    private static void sentence(String told, String script) {
        sentences++;
        List<Call> calls = read(script);
        ScreenVotes x = new ScreenVotes();
        for (int k = 0; k < calls.size(); k++) {
            Call call = calls.get(k);
            long got = answer(x, call);
            if (!call.word.isEmpty()) {
                due(told + ": " + call.row, got, call.want);
            }
            if (call.changesNothing()) {
                nothingChanged(told, calls, k);
            }
        }
        if (calls.stream().allMatch(c -> c.word.isEmpty())) {
            throw new IllegalStateException("no answer is judged: " + told);
        }
    }

    private static ScreenVotes replayed(List<Call> calls, int n) {
        ScreenVotes x = new ScreenVotes();
        for (Call call : calls.subList(0, n)) {
            answer(x, call);
        }
        return x;
    }

    private static void nothingChanged(String told, List<Call> calls, int k) {
        twins++;
        Call call = calls.get(k);
        ScreenVotes without = replayed(calls, k);
        ScreenVotes with = replayed(calls, k + 1);
        int before = without.count(6);
        due(told + ": " + call.row + ", count(6) then", with.count(6),
            call.isFinding() ? FINDINGS.indexOf(call.word) + 1 : before);
        List<Long> held = allHeld(without);
        if (!allHeld(with).equals(held)) {
            wrong++;
            System.out.println(told + ": " + call.row + " has changed something");
        }
        if (k + 2 + held.size() > MOST_CALLS) {
            throw new IllegalStateException("more calls than an object is used for: " + told);
        }
    }

    /** All that an object holds, as far as calls tell; it is of no use afterwards. Each answer is one call's. */
    private static List<Long> allHeld(ScreenVotes x) {
        List<Long> held = new ArrayList<>(List.of(x.digest(), (long) x.fault()));
        for (int r = 0; r < 4; r++) {
            for (int what = 0; what < 3; what++) {
                held.add((long) x.law(r, what));
            }
            held.add((long) x.through(r));
            held.add((long) x.morning(r, 0));
        }
        for (int rule = 1; rule <= 3; rule++) {
            held.add((long) x.other(rule));
        }
        for (int q = 0; q < 5; q++) {
            held.add((long) x.chance(q, 0));
        }
        for (int s = 0; s < 4; s++) {
            addSheet(held, x, s);
        }
        addTrials(held, x);
        addKin(held, x);
        for (int number : new int[] {0, 1, 5, 7, 999999}) {
            for (int what = 0; what < 3; what++) {
                held.add((long) x.known(number, what));
            }
        }
        held.add((long) x.hear(500000, 50, 2));
        held.add((long) x.player(0));
        held.add((long) x.type('v'));
        held.add((long) x.repeal());
        return held;
    }

    /** A size below 0 is found first, so that the latest finding tells what get found. */
    private static void addSheet(List<Long> held, ScreenVotes x, int s) {
        int[] items = {1, 2, 3, 4, 5, 6, 7, 8, 9, 10, 17, 18, 119, 120, 214, 215, 216, 238, 239, 240};
        for (int form = 0; form < 3; form++) {
            held.add((long) x.sheet(s, form, -1));
            held.add((long) x.get(s, form, 0));
            int finding = x.count(6);
            held.add((long) finding);
            for (int i = 0; i < items.length && (finding == 5 || finding == 2); i++) {
                held.add((long) x.get(s, form, items[i]));
            }
        }
        held.add((long) x.lose(s));
    }

    private static void addTrials(List<Long> held, ScreenVotes x) {
        int places = x.count(4);
        held.add((long) places);
        for (int a = 0; a < places; a++) {
            for (int b = 0; b < a; b++) {
                held.add((long) x.better(a, b));
            }
        }
        for (int place = 0; place < places; place++) {
            held.add((long) x.week(place, 0));
        }
    }

    private static void addKin(List<Long> held, ScreenVotes x) {
        held.add((long) x.sheet(0, 0, 240));
        for (int j = 1; j <= 9; j++) {
            held.add((long) x.jurors(j));
            held.add(x.digest());
        }
    }

    // ---- what it is

    private static void calls512() {
        sentences++;
        ScreenVotes x = new ScreenVotes();
        for (int call = 1; call <= 24; call++) {
            due("call " + call, x.player(0), call - 1);
        }
        for (int call = 25; call <= 511; call++) {
            due("call " + call, x.jurors(1 + call % 9), call == 25 ? 5 : 1 + (call - 1) % 9);
        }
        due("An object is used for at most 512 calls: the last of them", x.player(0), -4);
        ScreenVotes y = new ScreenVotes();
        for (int call = 1; call <= 511; call++) {
            y.draw(call);
        }
        due("An object is used for at most 512 calls: the last of them", y.digest(), 14503585154808L);
    }

    // ---- terms, part 1

    private static void players() {
        sentence("Terms 1: PLAYERS 0 .. 23 (24 at most)", """
            order(0) BAD
            votes(0, 0, 0) BAD
            trial(0) BAD
            24 * player(0) 0+
            player(0) FULL
            count(0) 24
            order(0) 0
            order(23) 23
            order(24) BAD
            votes(23, 3, 1) 0
            votes(24, 0, 0) BAD
            trial(24) BAD
            trial(23) 0
            """);
        sentence("Terms 1: KIN: JURORS 0 .. 8, as bits", """
            jurors(9)
            player(0)
            player(1)
            player(256)
            player(255)
            player(510)
            player(511)
            sheet(0, 0, 54)
            votes(0, 0, 0) 9
            votes(1, 0, 0) 8
            votes(2, 0, 0) 8
            votes(3, 0, 0) 1
            votes(4, 0, 0) 1
            votes(5, 0, 0) 0
            put(0, 0, 9, 1)
            votes(1, 0, 1) 0
            put(0, 0, 10, 1)
            votes(1, 0, 1) 1
            put(0, 0, 17, 1)
            votes(1, 0, 1) 2
            put(0, 0, 26, 1)
            votes(2, 0, 1) 0
            put(0, 0, 25, 1)
            votes(2, 0, 1) 1
            put(0, 0, 34, 1)
            votes(3, 0, 1) 0
            put(0, 0, 35, 1)
            votes(3, 0, 1) 1
            put(0, 0, 37, 1)
            votes(4, 0, 1) 0
            put(0, 0, 36, 1)
            votes(4, 0, 1) 1
            """);
        sentence("Terms 1: J JURORS vote (1 to 9; 5 at first)", """
            count(1) 5
            player(0)
            sheet(0, 0, 9)
            put(0, 0, 0, 1)
            put(0, 0, 4, 1)
            put(0, 0, 5, 1)
            put(0, 0, 8, 1)
            votes(0, 0, 0) 5
            votes(0, 0, 1) 2
            jurors(0) BAD
            jurors(1) 5
            count(1) 1
            votes(0, 0, 0) 1
            votes(0, 0, 1) 1
            jurors(9) 1
            votes(0, 0, 0) 9
            votes(0, 0, 1) 4
            jurors(10) BAD
            jurors(8) 9
            votes(0, 0, 0) 8
            votes(0, 0, 1) 3
            """);
    }

    private static void rows() {
        sentence("Terms 1: SHEETS 0 .. 3 are LOST (at first)", """
            lose(0) NULL
            lose(1) NULL
            lose(2) NULL
            lose(3) NULL
            lose(4) BAD
            lose(-1) BAD
            sheet(0, 0, 1) 1
            sheet(3, 0, 1) 1
            lose(1) NULL
            lose(2) NULL
            lose(0) 1
            lose(3) 1
            """);
        sentence("Terms 1: a row of a FORM: 0 bytes", """
            sheet(0, 0, 9) 9
            put(0, 0, 0, 127) 1
            get(0, 0, 0) 127
            put(0, 0, 0, 128) 1
            get(0, 0, 0) -128
            put(0, 0, 0, -128) 1
            get(0, 0, 0) -128
            put(0, 0, 0, -129) 1
            get(0, 0, 0) 127
            put(0, 0, 0, 255) 1
            get(0, 0, 0) -1
            put(0, 0, 0, 256) 1
            get(0, 0, 0) 0
            put(0, 0, 0, MAX) 1
            get(0, 0, 0) -1
            put(0, 0, 0, MIN) 1
            get(0, 0, 0) 0
            """);
        sentence("Terms 1: a row of a FORM: 1 shorts", """
            sheet(1, 1, 9) 9
            put(1, 1, 0, 128) 1
            get(1, 1, 0) 128
            put(1, 1, 0, 32767) 1
            get(1, 1, 0) 32767
            put(1, 1, 0, 32768) 1
            get(1, 1, 0) -32768
            put(1, 1, 0, -32768) 1
            get(1, 1, 0) -32768
            put(1, 1, 0, -32769) 1
            get(1, 1, 0) 32767
            put(1, 1, 0, 65535) 1
            get(1, 1, 0) -1
            put(1, 1, 0, 65536) 1
            get(1, 1, 0) 0
            put(1, 1, 0, MIN) 1
            get(1, 1, 0) 0
            """);
        sentence("Terms 1: a row of a FORM: 2 ints", """
            sheet(2, 2, 9) 9
            put(2, 2, 0, 32768) 1
            get(2, 2, 0) 32768
            put(2, 2, 0, 65536) 1
            get(2, 2, 0) 65536
            put(2, 2, 0, MAX) 1
            get(2, 2, 0) MAX
            put(2, 2, 0, MIN) 1
            get(2, 2, 0) MIN
            count(6) 0
            """);
        sentence("Terms 1: of 0 to 240 items", """
            sheet(0, 0, 0) 0
            put(0, 0, 0, 1) INDEX
            get(0, 0, 0) INDEX
            sheet(0, 0, 1) 1
            put(0, 0, 0, 1) 1
            put(0, 0, 1, 1) INDEX
            sheet(0, 1, 240) 240
            put(0, 1, 239, 9) 1
            get(0, 1, 239) 9
            put(0, 1, 240, 1) INDEX
            get(0, 1, 240) INDEX
            sheet(0, 1, 241) BAD
            lose(0) 240
            sheet(0, 1, 241) BAD
            lose(0) NULL
            """);
        for (int form = 0; form < 3; form++) {
            sentence("Terms 1: items (0 at first)", """
                sheet(0, F, 240) 240
                get(0, F, 0) 0
                get(0, F, 239) 0
                put(0, F, 0, 7) 1
                copy(0, 0, 0, 1, 1) 1
                copy(0, 0, 0, 2, 2) 1
                copy(0, 0, 0, 4, 4) 1
                copy(0, 0, 0, 8, 8) 1
                copy(0, 0, 0, 16, 16) 1
                copy(0, 0, 0, 32, 32) 1
                copy(0, 0, 0, 64, 64) 1
                copy(0, 0, 0, 128, 112) 1
                get(0, F, 239) 7
                sheet(0, F, 100) 100
                get(0, F, 0) 0
                get(0, F, 99) 0
                sheet(0, F, 240) 240
                get(0, F, 0) 0
                get(0, F, 99) 0
                get(0, F, 100) 0
                get(0, F, 239) 0
                put(0, F, 239, 7) 1
                lose(0) 240
                sheet(0, F, 240) 240
                get(0, F, 239) 0
                """.replace("F", String.valueOf(form)));
        }
    }

    private static void findings() {
        sentence("Terms 1: FINDINGS (answers -10 less the number): 1 NULL, 2 INDEX, 3 CAST, 4 STORE, 5 SIZE", """
            count(6) 0
            lose(0) -11
            count(6) 1
            sheet(0, 0, -1) -15
            count(6) 5
            sheet(0, 0, 1) 1
            count(6) 5
            put(0, 0, 1, 1) -12
            count(6) 2
            put(0, 1, 0, 1) -13
            count(6) 3
            sheet(1, 1, 1) 1
            copy(0, 0, 1, 0, 1) -14
            count(6) 4
            get(0, 0, 0) 0
            put(0, 0, 0, 1) 1
            lose(1) 1
            count(6) 4
            lose(1) -11
            count(6) 1
            """);
        sentence("Terms 1: FINDINGS change nothing but count() 6; other refusals leave that too", """
            player(0)
            player(5)
            ballot 0 yyn-y nnyyn
            sheet(1, 1, 3)
            sheet(2, 2, 3)
            put(1, 1, 2, 300)
            put(2, 2, 2, 70000)
            text "v50a1s"
            trial(1)
            week(0, 20)
            hear(5, 9, 4)
            sheet(0, 0, -1) SIZE
            player(512) BAD
            sheet(2, 2, MIN) SIZE
            lose(3) NULL
            jurors(10) BAD
            put(3, 0, 0, 1) NULL
            get(3, 0, 0) NULL
            copy(0, 0, 3, 0, 1) NULL
            copy(3, 0, 0, 0, 1) NULL
            put(1, 0, 0, 1) CAST
            type(256) BAD
            get(2, 1, 0) CAST
            copy(0, 0, 1, 0, 1) STORE
            trial(1) NOT
            copy(1, 0, 2, 0, 1) STORE
            put(2, 2, 3, 1) INDEX
            week(0, 21) BAD
            put(1, 1, -1, 1) INDEX
            get(1, 1, 3) INDEX
            copy(2, 0, 2, 1, 3) INDEX
            hear(1000000, 0, 0) BAD
            count(6) 2
            """);
    }

    private static void items() {
        sentence("Terms 1: of JUROR j for PLAYER p item 9 p and j: the first, the last, none behind it", """
            jurors(9)
            24 * player(0)
            sheet(0, 0, 240)
            put(0, 0, 0, 1)
            votes(0, 0, 1) 1
            put(0, 0, 8, 1)
            votes(0, 0, 1) 2
            votes(1, 0, 1) 0
            put(0, 0, 9, 1)
            votes(0, 0, 1) 2
            votes(1, 0, 1) 1
            put(0, 0, 206, 1)
            votes(22, 0, 1) 1
            votes(23, 0, 1) 0
            put(0, 0, 207, 1)
            votes(22, 0, 1) 1
            votes(23, 0, 1) 1
            put(0, 0, 215, 1)
            votes(23, 0, 1) 2
            put(0, 0, 216, 1)
            votes(23, 0, 1) 2
            sheet(0, 0, 216)
            votes(23, 0, 0) 9
            sheet(0, 0, 215)
            votes(23, 0, 0) 8
            sheet(0, 0, 207)
            votes(23, 0, 0) 0
            votes(22, 0, 0) 9
            """);
        sentence("Terms 1: SHEET r has the votes of ROUND r (0 to 3)", """
            player(0)
            ballot 0 y----
            ballot 1 yy---
            ballot 2 yyy--
            ballot 3 yyyy-
            votes(0, 0, 1) 1
            votes(0, 1, 1) 2
            votes(0, 2, 1) 3
            votes(0, 3, 1) 4
            lose(0)
            votes(0, 0, 0) 0
            votes(0, 3, 0) 4
            lose(3)
            votes(0, 3, 0) 0
            votes(0, 1, 0) 2
            """);
        String least = """
            player(0)
            jurors(1)
            sheet(0, F, 1)
            votes(0, 0, 0) 1
            votes(0, 0, 1) 0
            put(0, F, 0, 1)
            votes(0, 0, 0) 1
            votes(0, 0, 1) 1
            put(0, F, 0, -1)
            votes(0, 0, 0) 0
            votes(0, 0, 1) 0
            put(0, F, 0, HIGH)
            votes(0, 0, 0) 1
            votes(0, 0, 1) 1
            put(0, F, 0, LOW)
            votes(0, 0, 0) 0
            votes(0, 0, 1) 0
            """;
        String told = "Terms 1: YES, if it is above 0; NO, if it is 0; else it is LOST";
        sentence(told, least.replace("F", "0").replace("HIGH", "127").replace("LOW", "-128"));
        sentence(told, least.replace("F", "1").replace("HIGH", "32767").replace("LOW", "-32768"));
        sentence(told, least.replace("F", "2").replace("HIGH", "MAX").replace("LOW", "MIN"));
        sentence("Terms 1: .. or where there is none, it is LOST", """
            player(0)
            player(0)
            jurors(9)
            votes(0, 0, 0) 0
            sheet(0, 0, 0)
            votes(0, 0, 0) 0
            sheet(0, 0, 1)
            votes(0, 0, 0) 1
            votes(1, 0, 0) 0
            sheet(0, 0, 8)
            votes(0, 0, 0) 8
            sheet(0, 0, 9)
            votes(0, 0, 0) 9
            votes(1, 0, 0) 0
            sheet(0, 0, 10)
            votes(0, 0, 0) 9
            votes(1, 0, 0) 1
            put(0, 0, 9, 1)
            votes(1, 0, 1) 1
            sheet(0, 0, 9)
            votes(1, 0, 1) 0
            put(0, 0, 0, 1)
            lose(0)
            votes(0, 0, 0) 0
            votes(0, 0, 1) 0
            """);
        sentence("Terms 1: Votes COUNT that are not LOST, of JURORS 0 .. J - 1 that are not KIN", """
            player(18)
            jurors(6)
            ballot 0 yyn-yyyyy
            votes(0, 0, 0) 3
            votes(0, 0, 1) 2
            jurors(5)
            votes(0, 0, 0) 2
            votes(0, 0, 1) 1
            jurors(9)
            votes(0, 0, 0) 6
            votes(0, 0, 1) 5
            jurors(1)
            votes(0, 0, 0) 1
            """);
    }

    // ---- terms, part 2

    private static void bylawText() {
        sentence("Terms 2: a text of at most 60 bytes", """
            60 * type(118) 1+
            type(118) FULL
            count(2) 60
            fault() 1
            repeal() 60
            count(2) 0
            type(118) 1
            """);
        sentence("Terms 2: ROUNDS, parted by ;, 1 to 4, in a text of 60 bytes that can't go on", """
            text "v001a001a;v099a009n;v010a010d;v100a024s"
            fault() NONE
            count(2) 39
            count(3) 4
            law(0, 0) 1
            law(3, 0) 100
            law(3, 1) 24
            21 * type(59) 40+
            type(59) FULL
            fault() 39
            count(3) 0
            """);
        fault("", 0);
        fault("v1a1a", -1);
        fault("v1a1a;v1a1a", -1);
        fault("v1a1a;v1a1a;v1a1a", -1);
        fault("v1a1a;v1a1a;v1a1a;v1a1a", -1);
        fault("v1a1a;v1a1a;v1a1a;v1a1a;", 23);
        fault("v1a1a;v1a1a;v1a1a;v1a1a;v1a1a", 23);
        fault("v1a1a;v1a1a;v1a1a;v1a1a;x", 23);
        fault("v1a1a;v1a1a;v1a1a;v1a1av", 23);
        fault("v1a1av1a1a", 5);
        fault("v1a1a,v1a1a", 5);
        fault(";", 0);
        fault("v1a1a;;v1a1a", 6);
        fault("v1a1a;v1a1a;", 12);
    }

    /** Whether a text is refused where it must be: its fault, that it has no rounds then, and that calls are NOT. */
    private static void fault(String text, int want) {
        int rounds = want == -1 ? text.split(";").length : 0;
        sentence("Terms 2: The FAULT of " + text, "text \"" + text + "\"\nfault() " + want + "\ncount(3) " + rounds
            + "\nchosen() " + (want == -1 ? "NONE" : "NOT") + "\n");
    }

    private static void numbers() {
        for (int x = 0; x <= 999; x++) {
            for (String figures : figuresOf(x)) {
                faultAlone("v" + figures + "a1a", x >= 1 && x <= 100 ? -1 : 1);
                faultAlone("v" + figures, x >= 1 && x <= 100 ? 1 + figures.length() : 1);
                faultAlone("v1a" + figures + "a", x >= 1 && x <= 24 ? -1 : 3);
                faultAlone("v1a" + figures, x >= 1 && x <= 24 ? 3 + figures.length() : 3);
            }
        }
        String told = "Terms 2: v and a number (1 to 100), then a and a number (1 to 24): ";
        sentence(told + "the least", "text \"v1a1n\"\nlaw(0, 0) 1\nlaw(0, 1) 1\n");
        sentence(told + "the greatest", "text \"v100a24n\"\nlaw(0, 0) 100\nlaw(0, 1) 24\n");
        sentence(told + "with 0 in front", "text \"v009a010n\"\nlaw(0, 0) 9\nlaw(0, 1) 10\n");
        sentence(told + "0 as x", "text \"v0a1n\"\nfault() 1\nlaw(0, 0) NOT\n");
        sentence(told + "101 as x", "text \"v101a1n\"\nfault() 1\nlaw(0, 0) NOT\n");
        sentence(told + "0 as y", "text \"v1a0n\"\nfault() 3\nlaw(0, 1) NOT\n");
        sentence(told + "25 as y", "text \"v1a25n\"\nfault() 3\nlaw(0, 1) NOT\n");
        String[][] behind = {{"v0001a1a", "1"}, {"v0011a1a", "4"}, {"v1000a1a", "4"}, {"v1001", "4"}, {"v1010a1a", "1"},
            {"v9999", "1"}, {"v1a0024a", "6"}, {"v1a0241", "6"}, {"v1a0251", "3"}, {"v1a1a;v0999a1a", "10"},
            {"v4294967297a1a", "1"}, {"v1a4294967297a", "3"}, {"v0014294967297a1a", "4"}, {"v1a001001001", "6"}};
        for (String[] b : behind) {
            sentence("Terms 2: Numbers are one to three figures: " + b[0], "text \"" + b[0] + "\"\nfault() " + b[1] + "\n");
        }
    }

    private static List<String> figuresOf(int x) {
        List<String> all = new ArrayList<>();
        for (int length = 1; length <= 3; length++) {
            String figures = String.format("%0" + length + "d", x);
            if (figures.length() == length) {
                all.add(figures);
            }
        }
        return all;
    }

    private static int faultAlone(String text) {
        ScreenVotes x = new ScreenVotes();
        for (char b : text.toCharArray()) {
            x.type(b);
        }
        return x.fault();
    }

    private static void faultAlone(String text, int want) {
        due("Terms 2: The FAULT of " + text, faultAlone(text), want);
    }

    /** Behind each part of a round, each byte: which go on, and that all others are the FAULT. */
    private static void bytes() {
        sentences++;
        for (char b = 0; b <= 255; b++) {
            boolean figure = b >= '0' && b <= '9';
            faultAlone("" + b, b == 'v' ? 1 : 0);
            faultAlone("v" + b, figure && b != '0' ? 2 : 1);
            faultAlone("v5" + b, figure || b == 'a' ? 3 : 2);
            faultAlone("v05" + b, figure || b == 'a' ? 4 : 3);
            faultAlone("v005" + b, b == 'a' ? 5 : 4);
            faultAlone("v5a" + b, figure && b != '0' ? 4 : 3);
            faultAlone("v5a1" + b, figure ? 5 : "ands".indexOf(b) >= 0 ? -1 : 4);
            faultAlone("v5a001" + b, "ands".indexOf(b) >= 0 ? -1 : 6);
            faultAlone("v5a1d" + b, b == ';' ? 6 : 5);
            faultAlone("v5a1d;" + b, b == 'v' ? 7 : 6);
            faultAlone("v5a1d;v" + b, figure && b != '0' ? 8 : 7);
        }
        for (String letter : new String[] {"a", "n", "d", "s"}) {
            sentence("Terms 2: then a letter: a, n, d or s", "text \"v5a1" + letter + "\"\nlaw(0, 2) "
                + (int) letter.charAt(0) + "\n");
        }
        String told = "Terms 2: the end, where more must come: ";
        for (String text : new String[] {"", "v", "v5", "v50", "v100", "v5a", "v5a2", "v5a24", "v5a1d;", "v5a1d;v", "v5a1d;v5",
            "v5a1d;v5a", "v5a1d;v5a1", "v5a1d;v5a1d;", "v5a1d;v5a1d;v5a1d;", "v5a1d;v5a1d;v5a1d;v5a1"}) {
            sentence(told + text, "text \"" + text + "\"\nfault() " + text.length() + "\n");
        }
    }

    private static void passing() {
        sentence("Terms 2: of the first one all PLAYERS; PASS those with a vote that COUNTS", """
            player(0)
            player(511)
            player(0)
            player(30)
            player(0)
            ballot 0 y---- yyyyy ----- nyyyy -y---
            text "v1a24a"
            through(0) 17
            advance(0) 2
            player(0)
            through(0) 17
            jurors(1)
            through(0) 1
            lose(0)
            through(0) 0
            """);
        sentence("Terms 2: x hundredths or more are YES: none is less than the least x", """
            player(0)
            jurors(9)
            ballot 0 nnnnnnnnn
            text "v1a1a"
            through(0) 0
            put(0, 0, 8, 1)
            through(0) 1
            text "v11a1a"
            through(0) 1
            text "v12a1a"
            through(0) 0
            text "v100a1a"
            ballot 0 yyyyyyyyy
            through(0) 1
            ballot 0 yyyyyyyyn
            through(0) 0
            text "v88a1a"
            through(0) 1
            text "v89a1a"
            through(0) 0
            """);
        sentences++;
        for (int votes = 1; votes <= 9; votes++) {
            for (int yes = 0; yes <= votes; yes++) {
                for (int x = 1; x <= 100; x++) {
                    due("Terms 2: " + yes + " of " + votes + ", v" + x, throughOf("v" + x + "a1n", yes, votes),
                        100.0 * yes / votes >= x ? 1 : 0);
                }
            }
        }
    }

    /** Of one player or two, with so many YES of so many votes each. */
    private static int throughOf(String text, int... yesAndVotes) {
        ScreenVotes x = new ScreenVotes();
        x.jurors(9);
        x.sheet(0, 0, 18);
        for (int p = 0; p < yesAndVotes.length / 2; p++) {
            x.player(0);
            for (int j = 0; j < 9; j++) {
                x.put(0, 0, 9 * p + j, j < yesAndVotes[2 * p] ? 1 : j < yesAndVotes[2 * p + 1] ? 0 : -1);
            }
        }
        for (char b : text.toCharArray()) {
            x.type(b);
        }
        return x.through(0);
    }

    private static void shares() {
        sentences++;
        for (int v = 1; v <= 9; v++) {
            for (int y = 1; y <= v; y++) {
                for (int w = 1; w <= 9; w++) {
                    for (int z = 1; z <= w; z++) {
                        int want = y * w == z * v ? 0 : y * w > z * v ? 1 : 2;
                        due("Terms 2: SHARES (YES by votes that COUNT, compared exactly): " + y + " of " + v + ", " + z
                            + " of " + w, throughOf("v1a1n", y, v, z, w), want);
                    }
                }
            }
        }
        String three = """
            player(0)
            player(0)
            player(0)
            player(0)
            ballot 0 yyyyy yyyyn yyynn nnnnn
            """;
        String told = "Terms 2: Of those who PASS the y with the greatest SHARES ADVANCE: ";
        sentence(told + "1", three + "text \"v1a1n\"\nthrough(0) 1\nadvance(0) 1\n");
        sentence(told + "2", three + "text \"v1a2n\"\nthrough(0) 3\nadvance(0) 2\n");
        sentence(told + "just as many as PASS", three + "text \"v1a3n\"\nthrough(0) 7\nadvance(0) 3\n");
        sentence(told + "more than PASS", three + "text \"v1a4n\"\nthrough(0) 7\nadvance(0) 3\n");
        sentence(told + "the greatest y", three + "text \"v1a24n\"\nthrough(0) 7\nadvance(0) 3\n");
        sentence(told + "without PLAYERS", "text \"v1a24a\"\nthrough(0) 0\nadvance(0) 0\nchosen() NONE\n");
        String all = "jurors(1)\n24 * player(0)\nballot 0" + " y".repeat(24) + "\n";
        sentence(told + "all of a full row", all + "text \"v100a24n\"\nthrough(0) 16777215\nadvance(0) 24\n");
        sentence(told + "all but one, a", all + "text \"v100a23a\"\nthrough(0) 16777215\nadvance(0) 24\n");
        sentence(told + "all but one, n", all + "text \"v100a23n\"\nthrough(0) 0\nadvance(0) 0\n");
        sentence(told + "all but one, d", all + "text \"v100a23d\"\nthrough(0) 8388607\nadvance(0) 23\n");
        sentence(told + "all but one, s", all + "text \"v100a23s\"\nthrough(0) 8388607\nadvance(0) 23\n");
        sentence(told + "the last of THE ORDER", all + "draw(MAX)\ntext \"v100a23d\"\nthrough(0) 16646143\n");
        sentence(told + "the first of THE ORDER", all + "draw(MAX)\ntext \"v100a1d\"\nthrough(0) 16\nchosen() 4\n");
    }

    private static void ties() {
        String five = """
            player(0)
            player(0)
            player(0)
            player(0)
            player(0)
            order 4 3 1 2 0
            ballot 0 yyyyy yynn- y---n yn--- ynnnn
            """;
        String told = "Terms 2: where not all of one SHARE can: ";
        sentence(told + "they all can", five + "text \"v1a4n\"\nthrough(0) 15\n");
        sentence(told + "none of them is asked for", five + "text \"v1a1a\"\nthrough(0) 1\n");
        sentence(told + "a: all of these do, with 1 left", five + "text \"v1a2a\"\nthrough(0) 15\nadvance(0) 4\n");
        sentence(told + "a: all of these do, with 2 left", five + "text \"v1a3a\"\nthrough(0) 15\nadvance(0) 4\n");
        sentence(told + "n: none of these, nor a lesser SHARE", five + "text \"v1a2n\"\nthrough(0) 1\nadvance(0) 1\n");
        sentence(told + "n: none of these, with all but one left", five + "text \"v1a3n\"\nthrough(0) 1\nadvance(0) 1\n");
        sentence(told + "d: by THE ORDER the first", five + "text \"v1a2d\"\nthrough(0) 9\nadvance(0) 2\n");
        sentence(told + "d: by THE ORDER the first two", five + "text \"v1a3d\"\nthrough(0) 11\nadvance(0) 3\n");
        sentence(told + "s: those with more YES", five + "text \"v1a2s\"\nthrough(0) 3\nadvance(0) 2\n");
        sentence(told + "s: of like ones by THE ORDER the first", five + "text \"v1a3s\"\nthrough(0) 11\nadvance(0) 3\n");
        sentence("Terms 2: s: YES in all ROUNDS so far: this one, the ones before, none behind it, none of a text before", """
            player(0)
            player(0)
            player(0)
            order 2 1 0
            ballot 0 yyyyn yyynn yyynn
            ballot 1 yn--- yynn- yn---
            ballot 2 y---- y---- yyyyy
            text "v1a3a;v1a3a"
            through(1) 7
            text "v1a3a;v1a1s"
            through(1) 2
            text "v1a3a;v1a2s"
            through(1) 3
            text "v1a3a;v1a1s;v1a1s"
            through(1) 2
            through(2) 2
            text "v1a3a;v1a3a;v1a1s"
            through(2) 4
            ballot 1 yn--- yn--- yn---
            text "v1a3a;v1a1s"
            through(1) 1
            text "v1a3a;v1a2s"
            through(1) 5
            """);
        sentence("Terms 2: Those who ADVANCE are IN the next ROUND, no others", """
            player(0)
            player(0)
            player(0)
            ballot 0 ynnnn yyyyy nnnnn
            ballot 1 yyyyy ynnnn yyyyy
            ballot 2 yyyyy yyyyy yyyyy
            ballot 3 nnnnn yyyyy yyyyy
            text "v20a3a;v20a1n;v1a3a;v1a3a"
            through(0) 3
            through(1) 1
            through(2) 1
            through(3) 0
            advance(3) 0
            text "v21a3a;v20a1n;v1a3a;v1a3a"
            through(0) 2
            through(1) 2
            through(3) 2
            chosen() 1
            """);
    }

    private static void orders() {
        sentence("Terms 2: THE ORDER is a row of all PLAYERS, by numbers at first (one more comes last)", """
            order(0) BAD
            player(0)
            order(0) 0
            order(1) BAD
            player(0)
            player(0)
            order(1) 1
            order(2) 2
            order 2 0 1
            player(0)
            order(0) 2
            order(1) 0
            order(2) 1
            order(3) 3
            order(4) BAD
            order(-1) BAD
            """);
        sentence("Terms 2: Drawn by a SEED: PLAYERS by numbers, whatever THE ORDER was", """
            player(0)
            player(0)
            player(0)
            draw(0) 1
            order(1) 2
            order(2) 0
            draw(0) 1
            order(1) 2
            order(2) 0
            draw(-1) 0
            order(1) 2
            order(2) 1
            draw(MAX) 0
            order(1) 1
            order(2) 2
            draw(MIN) 1
            order(1) 0
            order(2) 2
            """);
        sentence("Terms 2: for i from the last place to 1: one PLAYER alone stays; of two there is one step", """
            draw(5) NONE
            player(0)
            draw(MIN) 0
            draw(MAX) 0
            player(0)
            draw(0) 1
            order(1) 0
            draw(-1) 0
            order(1) 1
            draw(MAX) 0
            draw(MIN) 1
            """);
        for (int seed : new int[] {0, 1, -1, Integer.MAX_VALUE, Integer.MIN_VALUE, 65536, -65536, 1103515245}) {
            int[] row = drawn(24, seed);
            StringBuilder script = new StringBuilder("24 * player(0)\ndraw(" + seed + ") " + row[0] + "\n");
            for (int i = 0; i < 24; i++) {
                script.append("order(").append(i).append(") ").append(row[i]).append('\n');
            }
            sentence("Terms 2: as ints that wrap; the upper 16 bits of SEED, as a number from 0 on", script.toString());
        }
        sentence("Terms 2: THE ORDER of 24 by the greatest SEED, told by hand", """
            24 * player(0)
            draw(MAX) 4
            order(1) 15
            order(2) 3
            order(12) 2
            order(22) 9
            order(23) 17
            """);
    }

    private static void chosenOnes() {
        sentence("Terms 2: CHOSEN is who ADVANCES out of the last ROUND, if that is just one", """
            chosen() NOT
            text "v1a1a"
            chosen() NONE
            player(0)
            player(0)
            chosen() NONE
            ballot 0 nnnnn yyyyy
            chosen() 1
            ballot 0 yyyyy yyyyy
            chosen() NONE
            text "v1a1d"
            chosen() 0
            text "v1a2d;v1a1a"
            chosen() NONE
            ballot 1 nnnnn ynnnn
            chosen() 1
            type(59)
            chosen() NOT
            """);
        String last = "jurors(1)\n24 * player(0)\nballot 0" + " n".repeat(23) + " y\ntext \"v100a1n\"\n";
        sentence("Terms 2: CHOSEN: the last of all PLAYERS", last + "through(0) 8388608\nchosen() 23\n");
    }

    // ---- terms, part 3

    private static void otherRules() {
        sentence("Terms 3: 1: the one with most YES; of like ones the first by THE ORDER, also without any", """
            other(1) NOT
            text "v100a1n"
            other(1) NONE
            player(0)
            other(1) 0
            player(0)
            player(8)
            other(1) 0
            order 2 0 1
            other(1) 2
            ballot 0 yynnn yy--- yynyn
            other(1) 2
            ballot 0 yynnn yyy-- yynyn
            other(1) 1
            ballot 0 yyynn yyy-- yynyn
            other(1) 0
            """);
        sentence("Terms 3: 1, 2: in all ROUNDS of THE BYLAW together, none behind them", """
            player(0)
            player(0)
            ballot 0 yyynn yynnn
            ballot 1 nnnnn nnnnn
            ballot 2 nnnnn nnnnn
            ballot 3 nnnnn yyyyy
            text "v1a1a"
            other(1) 0
            other(2) 0
            text "v1a1a;v1a1a;v1a1a"
            other(1) 0
            other(2) 0
            text "v1a1a;v1a1a;v1a1a;v1a1a"
            other(1) 1
            other(2) 1
            """);
        sentence("Terms 3: 2: the greatest SHARE of all these votes together (none without votes)", """
            other(2) NOT
            text "v1a1a;v1a1a"
            other(2) NONE
            player(511)
            player(0)
            player(0)
            player(0)
            other(2) NONE
            ballot 0 yyyyy ----- n---- n----
            other(2) 2
            order 3 2 1 0
            other(2) 3
            ballot 0 yyyyy yyyyn yynnn y----
            ballot 1 yyyyy yyynn ----- n----
            other(2) 1
            ballot 1 yyyyy ynnnn ----- n----
            other(2) 3
            ballot 1 yyyyy n---- ----- n----
            other(2) 1
            """);
        sentence("Terms 3: 3: the one that of any other has more votes of JURORS on its part in ROUND 0; none", """
            other(3) NONE
            player(0)
            other(3) 0
            player(0)
            other(3) NONE
            ballot 0 ynnnn nnnnn
            other(3) 0
            ballot 0 ynnnn nnnny
            other(3) NONE
            ballot 0 ynnnn nnnyy
            other(3) 1
            player(0)
            other(3) NONE
            ballot 0 ynnnn nnnyy -----
            other(3) NONE
            ballot 0 ynnnn nnnyy ---n-
            other(3) 1
            ballot 0 ynnnn nnnyy ---ny
            other(3) 1
            ballot 0 ynnnn nnnyy y--ny
            other(3) NONE
            ballot 0 yynnn nnyyn ynynn
            other(3) NONE
            """);
        sentence("Terms 3: 3: both votes COUNT: neither KIN, nor LOST, nor of a JUROR behind J; not both YES", """
            player(1)
            player(2)
            ballot 0 yynnn nnnnn
            other(3) NONE
            ballot 0 yyynn nnnnn
            other(3) 0
            ballot 0 yyynn nn-nn
            other(3) NONE
            ballot 0 yyynn nnynn
            other(3) NONE
            ballot 0 nnnny nnnnn
            other(3) 0
            jurors(4)
            other(3) NONE
            """);
    }

    // ---- terms, part 4

    private static void skills() {
        sentence("Terms 4: SKILL q (0 to 4); CHANCE q (0 to 100 hundredths; 10 30 50 70 90 at first)", """
            chance(-1, 0) BAD
            chance(5, 0) BAD
            chance(0, -1) BAD
            chance(0, 101) BAD
            chance(0, 0) 10
            chance(1, 100) 30
            chance(2, 1) 50
            chance(3, 99) 70
            chance(4, 0) 90
            chance(0, 101) BAD
            chance(0, 100) 0
            chance(1, 0) 100
            chance(2, 0) 1
            chance(3, 0) 99
            chance(4, 100) 0
            passes(-1, 1) BAD
            passes(5, 1) BAD
            all(-1) BAD
            all(5) BAD
            """);
        sentence("Terms 4: THROUGH: x hundredths YES or more", """
            jurors(2)
            passes(2, 1) 750000
            passes(2, 50) 750000
            passes(2, 51) 250000
            passes(2, 100) 250000
            jurors(3)
            passes(2, 33) 875000
            passes(2, 34) 500000
            passes(2, 66) 500000
            passes(2, 67) 125000
            jurors(5)
            passes(2, 20) 968750
            passes(2, 21) 812500
            passes(2, 80) 187500
            passes(2, 81) 31250
            jurors(8)
            passes(2, 12) 996093
            passes(2, 13) 964843
            passes(2, 87) 35156
            passes(2, 88) 3906
            jurors(9)
            passes(2, 11) 998046
            passes(2, 12) 980468
            passes(2, 88) 19531
            passes(2, 89) 1953
            """);
        sentence("Terms 4: in millionths of all, rounded down, of 100 to the J ways for each J", """
            chance(0, 1)
            chance(4, 99)
            jurors(1)
            passes(0, 100) 10000
            passes(4, 1) 990000
            jurors(2)
            passes(0, 100) 100
            passes(4, 1) 999900
            jurors(3)
            passes(0, 100) 1
            passes(4, 1) 999999
            jurors(4)
            passes(0, 100) 0
            passes(4, 1) 999999
            jurors(6)
            passes(0, 50) 19
            passes(4, 51) 999980
            jurors(7)
            passes(4, 100) 932065
            jurors(9)
            passes(0, 1) 86482
            passes(4, 1) 999999
            passes(4, 100) 913517
            """);
        sentence("Terms 4: CHANCE 0 and 100: none and all, of the least J and the greatest", """
            chance(0, 0)
            chance(4, 100)
            jurors(1)
            passes(0, 1) 0
            passes(4, 100) 1000000
            jurors(9)
            passes(0, 1) 0
            passes(4, 1) 1000000
            passes(4, 100) 1000000
            """);
        sentence("Terms 4: J votes, none LOST: KIN and SHEETS are of no matter", """
            player(511)
            ballot 0 -----
            passes(2, 100) 31250
            text "v100a1a"
            all(2) 31250
            """);
        sentence("Terms 4: through all ROUNDS: 1000000, for each ROUND times THROUGH by 1000000, rounded down each time", """
            all(1) NOT
            text "v80a1n"
            all(1) 30780
            text "v80a1n;v80a1n"
            all(1) 947
            text "v80a1n;v80a1n;v80a1n"
            all(1) 29
            text "v80a1n;v80a1n;v80a1n;v80a1n"
            all(1) 0
            chance(1, 100)
            all(1) 1000000
            chance(1, 0)
            all(1) 0
            """);
        sentence("Terms 4: rounded down each time, not at the end", """
            jurors(3)
            chance(0, 99)
            text "v1a1n;v1a1n;v1a1n;v1a1n"
            passes(0, 1) 999999
            all(0) 999996
            """);
    }

    private static void tables() {
        sentence("Terms 4: A TABLE a, b, c, d (0 to 15 each)", """
            doubt(0, 0, 0, 0) 1000000
            doubt(15, 15, 15, 15) 601727
            doubt(16, 15, 15, 15) BAD
            doubt(15, 16, 15, 15) BAD
            doubt(15, 15, 16, 15) BAD
            doubt(15, 15, 15, 16) BAD
            doubt(-1, 0, 0, 0) BAD
            doubt(0, -1, 0, 0) BAD
            doubt(0, 0, -1, 0) BAD
            doubt(0, 0, 0, -1) BAD
            doubt(MIN, MAX, 0, 0) BAD
            doubt(0, 0, MAX, MIN) BAD
            doubt(15, 0, 0, 15) 0
            doubt(0, 15, 15, 0) 0
            doubt(15, 0, 15, 0) 1000000
            doubt(0, 15, 0, 15) 1000000
            """);
        sentence("Terms 4: at least as many .. as a, if a by (a and b) is not below c by (c and d): like shares too", """
            doubt(1, 1, 1, 1) 833333
            doubt(1, 2, 2, 4) 761904
            doubt(2, 4, 1, 2) 773809
            doubt(0, 1, 0, 2) 1000000
            doubt(15, 15, 15, 14) 550863
            doubt(15, 14, 15, 15) 550863
            doubt(14, 15, 15, 15) 550863
            """);
        sentence("Terms 4: else those with at most a", """
            doubt(1, 2, 1, 1) 700000
            doubt(0, 1, 1, 2) 750000
            doubt(0, 1, 1, 0) 500000
            doubt(1, 1, 1, 2) 700000
            doubt(2, 1, 3, 1) 714285
            """);
        sentence("Terms 4: a side without any counts as 0", """
            doubt(0, 0, 0, 1) 1000000
            doubt(0, 0, 1, 0) 1000000
            doubt(0, 0, 15, 15) 1000000
            doubt(1, 0, 0, 0) 1000000
            doubt(0, 1, 0, 0) 1000000
            doubt(15, 15, 0, 0) 1000000
            """);
    }

    private static void mornings() {
        sentence("Terms 4: the first half of THE ORDER (as many as half of all PLAYERS, cut): of none, one, two, three", """
            text "v50a1a"
            morning(0, 0) 0
            morning(0, 3) 0
            morning(0, 4) 1000000
            sheet(0, 0, 27)
            put(0, 0, 0, 1)
            jurors(1)
            player(0)
            morning(0, 0) 0
            morning(0, 1) 0
            morning(0, 2) 1
            morning(0, 3) 0
            player(0)
            morning(0, 0) 1
            morning(0, 1) 0
            morning(0, 2) 0
            morning(0, 3) 1
            morning(0, 4) 500000
            player(0)
            morning(0, 0) 1
            morning(0, 1) 0
            morning(0, 2) 0
            morning(0, 3) 2
            morning(0, 4) 333333
            order 2 1 0
            morning(0, 0) 0
            morning(0, 1) 1
            morning(0, 2) 1
            morning(0, 3) 1
            """);
        String half = "jurors(1)\n24 * player(0)\nballot 0" + " y".repeat(12) + " n".repeat(12) + "\ntext \"v100a1n\"\n";
        sentence("Terms 4: the first half of a full row", half
            + "morning(0, 0) 12\nmorning(0, 1) 0\nmorning(0, 2) 0\nmorning(0, 3) 12\nmorning(0, 4) 0\n");
        String odd = half.replace("24", "23").replace(" n".repeat(12), " n".repeat(11));
        sentence("Terms 4: the first half of 23, cut", odd
            + "morning(0, 0) 11\nmorning(0, 1) 0\nmorning(0, 2) 1\nmorning(0, 3) 11\nmorning(0, 4) 8\n");
        sentence("Terms 4: all PLAYERS with a vote that COUNTS in it (those who are not IN it too); half of all PLAYERS", """
            player(0)
            player(511)
            player(0)
            player(0)
            player(0)
            player(0)
            ballot 0 nnnnn yyyyy nnnnn nnnnn nnnnn nnnnn
            ballot 1 y---n yyyyy ynn-- ----- n---- yyyyy
            text "v1a1a;v50a1n"
            through(0) 0
            morning(1, 0) 1
            morning(1, 1) 1
            morning(1, 2) 1
            morning(1, 3) 1
            morning(1, 4) 833333
            morning(0, 0) 0
            morning(0, 1) 2
            morning(0, 2) 0
            morning(0, 3) 3
            morning(0, 4) 1000000
            """);
        sentence("Terms 4: who have x hundredths or more, who have not", """
            player(0)
            player(0)
            ballot 0 yyn-- yyn--
            text "v66a1a"
            morning(0, 0) 1
            morning(0, 1) 0
            morning(0, 2) 1
            morning(0, 3) 0
            text "v67a1a"
            morning(0, 0) 0
            morning(0, 1) 1
            morning(0, 2) 0
            morning(0, 3) 1
            """);
    }

    // ---- terms, part 5

    private static void trials() {
        sentence("Terms 5: TRIALS: up to 6 PLAYERS", """
            7 * player(0)
            6 * trial(6)
            count(4) 1
            trial(5) 1
            trial(4) 2
            trial(3) 3
            trial(2) 4
            trial(1) 5
            trial(0) FULL
            trial(1) NOT
            trial(7) BAD
            trial(-1) BAD
            count(4) 6
            week(5, 0) 1
            week(6, 0) BAD
            """);
        sentence("Terms 5: each with up to 10 WEEKS: a mark (0 to 20)", """
            player(0)
            player(0)
            week(0, 0) BAD
            trial(0)
            trial(1)
            week(0, -1) BAD
            week(0, 21) BAD
            week(-1, 0) BAD
            week(2, 0) BAD
            9 * week(0, 0) 1+
            week(0, 20) 10
            week(0, 20) FULL
            week(0, 21) BAD
            9 * week(1, 0) 1+
            better(0, 1) NONE
            week(1, 19) 10
            better(0, 1) 1
            week(1, 0) FULL
            better(0, 1) 1
            """);
        sentence("Terms 5: BETTER: in more of the WEEKS that both have (by number); none that both have", """
            player(0)
            player(0)
            trial(0)
            trial(1)
            better(0, 1) NONE
            week(0, 20)
            better(0, 1) NONE
            better(1, 0) NONE
            week(1, 19)
            better(0, 1) 1
            better(1, 0) 0
            week(1, 20)
            week(1, 20)
            better(0, 1) 1
            week(0, 18)
            week(0, 19)
            better(0, 1) 0
            better(1, 0) 1
            """);
        sentence("Terms 5: of like ones the greater sum of these; else neither", """
            player(0)
            player(0)
            trial(0)
            trial(1)
            week(0, 20)
            week(0, 0)
            week(1, 19)
            week(1, 1)
            better(0, 1) NONE
            better(1, 0) NONE
            week(0, 7)
            week(1, 7)
            better(0, 1) NONE
            week(1, 20)
            better(0, 1) NONE
            week(0, 20)
            week(0, 3)
            week(0, 9)
            week(1, 9)
            week(1, 4)
            better(0, 1) 0
            better(1, 0) 1
            """);
        sentence("Terms 5: THE SEAT: the one that is BETTER than all others; NONE", """
            seat() NONE
            6 * player(0)
            seat() NONE
            trial(5)
            seat() 5
            trial(3)
            seat() NONE
            week(0, 0)
            week(1, 1)
            seat() 3
            trial(4)
            seat() NONE
            week(2, 0)
            seat() 3
            week(2, 2)
            week(1, 0)
            seat() NONE
            week(1, 1)
            week(2, 0)
            seat() 3
            trial(0)
            trial(1)
            trial(2)
            week(3, 20)
            week(4, 20)
            week(5, 20)
            seat() NONE
            week(5, 20)
            seat() NONE
            week(3, 19)
            week(4, 19)
            seat() 2
            """);
    }

    private static void heardBefore() {
        sentence("Terms 5: numbers (0 to 999999), in a YEAR (0 to 99), through so many ROUNDS (0 to 4)", """
            hear(-1, 0, 0) BAD
            hear(1000000, 0, 0) BAD
            hear(0, -1, 0) BAD
            hear(0, 100, 0) BAD
            hear(0, 0, -1) BAD
            hear(0, 0, 5) BAD
            known(0, 0) 0
            hear(0, 0, 0) 1
            hear(999999, 99, 4) 2
            known(0, 0) 1
            known(0, 1) 0
            known(0, 2) 0
            known(999999, 0) 1
            known(999999, 1) 4
            known(999999, 2) 99
            known(-1, 0) BAD
            known(1000000, 0) BAD
            count(5) 2
            """);
        sentence("Terms 5: 60 at most", """
            30 * hear(1, 2, 3) 1+
            29 * hear(5, 4, 1) 31+
            hear(7, 99, 4) 60
            hear(7, 0, 0) FULL
            hear(8, 0, 0) FULL
            hear(8, 100, 0) BAD
            known(1, 0) 30
            known(5, 0) 29
            known(7, 0) 1
            known(7, 1) 4
            known(7, 2) 99
            known(8, 0) 0
            count(5) 60
            """);
        sentence("Terms 5: Known of a number: how often, the greatest ROUNDS, the latest YEAR", """
            hear(5, 50, 0) 1
            hear(5, 49, 1) 2
            hear(7, 99, 4) 3
            hear(5, 51, 1) 4
            hear(5, 0, 0) 5
            known(5, 0) 4
            known(5, 1) 1
            known(5, 2) 51
            known(6, 0) 0
            known(6, 1) NONE
            known(6, 2) NONE
            """);
    }

    // ---- the refusals: the first that fits

    private static void firstThatFits() {
        String told = "Refusals, the first that fits: ";
        sentence(told + "player, type: BAD before FULL", """
            24 * player(0)
            player(512) BAD
            player(-1) BAD
            player(511) FULL
            60 * type(0)
            type(256) BAD
            type(-1) BAD
            type(255) FULL
            """);
        sentence(told + "law, advance, through, morning: BAD before NOT", """
            law(-1, 0) BAD
            law(4, 0) BAD
            law(0, -1) BAD
            law(0, 3) BAD
            law(0, 0) NOT
            law(3, 2) NOT
            advance(-1) BAD
            advance(4) BAD
            advance(0) NOT
            advance(3) NOT
            through(-1) BAD
            through(4) BAD
            through(0) NOT
            through(3) NOT
            morning(-1, 0) BAD
            morning(4, 0) BAD
            morning(0, -1) BAD
            morning(0, 5) BAD
            morning(0, 0) NOT
            morning(3, 4) NOT
            """);
        sentence(told + "other, all: BAD before NOT", """
            other(0) BAD
            other(4) BAD
            other(1) NOT
            other(2) NOT
            other(3) NONE
            all(-1) BAD
            all(5) BAD
            all(0) NOT
            all(4) NOT
            chosen() NOT
            """);
        sentence(told + "trial: BAD before NOT before FULL; week, hear: BAD before FULL", """
            7 * player(0)
            trial(0)
            trial(1)
            trial(2)
            trial(3)
            trial(4)
            trial(5)
            trial(7) BAD
            trial(0) NOT
            trial(5) NOT
            trial(6) FULL
            10 * week(5, 1)
            week(5, 21) BAD
            week(5, -1) BAD
            week(5, 20) FULL
            60 * hear(1, 1, 1)
            hear(1, 1, 5) BAD
            hear(1, 100, 1) BAD
            hear(-1, 1, 1) BAD
            hear(1, 1, 1) FULL
            """);
        sentence(told + "sheet: BAD before SIZE; put, get: BAD, NULL, CAST, INDEX", """
            sheet(-1, 0, -1) BAD
            sheet(4, 0, -1) BAD
            sheet(0, -1, -1) BAD
            sheet(0, 3, -1) BAD
            sheet(0, 0, -1) SIZE
            put(-1, 0, -1, 0) BAD
            put(4, 0, -1, 0) BAD
            put(0, -1, -1, 0) BAD
            put(0, 3, -1, 0) BAD
            put(0, 0, -1, 0) NULL
            get(-1, 0, -1) BAD
            get(4, 0, -1) BAD
            get(0, -1, -1) BAD
            get(0, 3, -1) BAD
            get(0, 0, -1) NULL
            sheet(0, 1, 2)
            put(0, 3, 0, 0) BAD
            put(0, 0, 2, 0) CAST
            put(0, 2, -1, 0) CAST
            put(0, 1, 2, 0) INDEX
            get(0, 3, 0) BAD
            get(0, 0, 2) CAST
            get(0, 2, -1) CAST
            get(0, 1, 2) INDEX
            """);
        sentence(told + "copy: BAD, NULL, STORE, INDEX", """
            copy(-1, 0, 0, 0, -1) BAD
            copy(4, 0, 0, 0, -1) BAD
            copy(0, 0, -1, 0, -1) BAD
            copy(0, 0, 4, 0, -1) BAD
            copy(0, -1, 0, -1, -1) NULL
            sheet(0, 0, 3)
            copy(0, -1, 1, -1, -1) NULL
            copy(1, -1, 0, -1, -1) NULL
            copy(0, 0, 4, 0, 1) BAD
            sheet(1, 1, 3)
            copy(0, -1, 1, -1, -1) STORE
            copy(1, 4, 0, 4, 9) STORE
            copy(0, 0, 1, 0, 0) STORE
            copy(0, -1, 0, 0, 1) INDEX
            """);
    }

    // ---- the promises, where a sentence of theirs is not one of the terms

    private static void promises1To13() {
        sentence("Promise 1: No PLAYERS, BYLAW, TRIALS; all SHEETS are LOST", """
            count(0) 0
            count(1) 5
            count(2) 0
            count(3) 0
            count(4) 0
            count(5) 0
            count(6) 0
            digest() 14503585154808
            fault() 0
            repeal() 0
            seat() NONE
            draw(0) NONE
            lose(0) NULL
            lose(1) NULL
            lose(2) NULL
            lose(3) NULL
            """);
        sentence("Promise 2: A PLAYER more: its number. BAD: KIN 0 to 511; FULL", """
            player(-1) BAD
            player(MIN) BAD
            player(512) BAD
            player(MAX) BAD
            count(0) 0
            player(0) 0
            player(511) 1
            player(512) BAD
            count(0) 2
            22 * player(256) 2+
            player(0) FULL
            player(511) FULL
            count(0) 24
            """);
        sentence("Promise 3: J: what it was. BAD", """
            jurors(0) BAD
            jurors(10) BAD
            jurors(MIN) BAD
            jurors(MAX) BAD
            jurors(-1) BAD
            jurors(5) 5
            jurors(1) 5
            jurors(9) 1
            jurors(10) BAD
            jurors(9) 9
            count(1) 9
            """);
        sentence("Promise 4: THE ORDER is drawn: who is first (NONE without PLAYERS)", """
            draw(0) NONE
            draw(MIN) NONE
            draw(MAX) NONE
            player(0)
            draw(0) 0
            player(0)
            draw(0) 1
            order(0) 1
            """);
        sentence("Promise 5: Who is at a place of THE ORDER. BAD", """
            order(0) BAD
            order(MIN) BAD
            player(0)
            player(0)
            order(-1) BAD
            order(0) 0
            order(1) 1
            order(2) BAD
            order(24) BAD
            order(MAX) BAD
            """);
        sentence("Promise 6: Of a PLAYER in a ROUND (0 to 3): 0 votes that COUNT, 1 YES of these. BAD", """
            votes(0, 0, 0) BAD
            player(0)
            votes(0, 0, 0) 0
            votes(0, 3, 1) 0
            votes(-1, 0, 0) BAD
            votes(1, 0, 0) BAD
            votes(0, -1, 0) BAD
            votes(0, 4, 0) BAD
            votes(0, 0, -1) BAD
            votes(0, 0, 2) BAD
            votes(MIN, 0, 0) BAD
            votes(MAX, 0, 0) BAD
            votes(0, MIN, 0) BAD
            votes(0, MAX, 0) BAD
            votes(0, 0, MIN) BAD
            votes(0, 0, MAX) BAD
            """);
        sentence("Promise 7: A byte (0 to 255) comes behind THE BYLAW: how many it has. BAD; FULL", """
            type(-1) BAD
            type(256) BAD
            type(MIN) BAD
            type(MAX) BAD
            type(374) BAD
            type(0) 1
            type(255) 2
            57 * type(118) 3+
            type(118) 60
            type(118) FULL
            type(0) FULL
            type(255) FULL
            count(2) 60
            """);
        sentence("Promise 8: THE BYLAW is empty: how many bytes it had", """
            repeal() 0
            text "v1a1a"
            count(3) 1
            repeal() 5
            count(2) 0
            count(3) 0
            fault() 0
            law(0, 0) NOT
            repeal() 0
            60 * type(0)
            repeal() 60
            type(118) 1
            fault() 1
            """);
        sentence("Promise 8: THE BYLAW is empty: nothing of a text before is read again", """
            text "v12a12n;v12a12n"
            repeal() 15
            type(118) 1
            type(49) 2
            fault() 2
            type(97) 3
            type(49) 4
            fault() 4
            type(97) 5
            fault() NONE
            count(3) 1
            law(0, 0) 1
            law(0, 1) 1
            law(0, 2) 97
            law(1, 0) BAD
            """);
        sentence("Promise 9: The place of its FAULT (of an empty one 0); NONE", """
            fault() 0
            type(118) 1
            fault() 1
            text "v1a1a"
            fault() NONE
            type(0) 6
            fault() 5
            repeal() 6
            fault() 0
            """);
        sentence("Promise 10: Of a ROUND of THE BYLAW: 0 x, 1 y, 2 its letter. BAD: also no such ROUND; NOT: a FAULT", """
            law(0, 0) NOT
            text "v3a4d"
            law(0, 0) 3
            law(0, 1) 4
            law(0, 2) 100
            law(0, 3) BAD
            law(0, -1) BAD
            law(-1, 0) BAD
            law(1, 0) BAD
            law(3, 0) BAD
            law(4, 0) BAD
            law(MIN, MIN) BAD
            law(MAX, MAX) BAD
            text "v1a1a;v2a2n;v3a3d;v100a24s"
            law(3, 0) 100
            law(3, 1) 24
            law(3, 2) 115
            law(2, 2) 100
            law(1, 2) 110
            law(0, 2) 97
            law(4, 0) BAD
            type(59)
            law(0, 0) NOT
            law(3, 0) NOT
            law(4, 0) BAD
            """);
        sentence("Promise 11: How many PLAYERS ADVANCE out of a ROUND. BAD; NOT", """
            player(0)
            player(0)
            ballot 0 y---- y----
            advance(0) NOT
            text "v1a1a"
            advance(0) 2
            advance(-1) BAD
            advance(1) BAD
            advance(4) BAD
            advance(MIN) BAD
            advance(MAX) BAD
            text "v1a1n;v1a1n;v1a1n;v1a1n"
            advance(0) 0
            advance(3) 0
            advance(4) BAD
            """);
        sentence("Promise 12: Who ADVANCES out of a ROUND, as bits. BAD; NOT", """
            player(0)
            player(0)
            ballot 0 n---- y----
            through(0) NOT
            text "v1a1a"
            through(0) 2
            through(-1) BAD
            through(1) BAD
            through(4) BAD
            through(MIN) BAD
            through(MAX) BAD
            text "v1a1a;v1a1a;v1a1a;v1a1a"
            through(3) 0
            through(4) BAD
            """);
        sentence("Promise 13: CHOSEN; NONE. NOT: it has a FAULT", """
            player(0)
            ballot 0 y----
            chosen() NOT
            text "v1a1a"
            chosen() 0
            text "v1a1a;"
            chosen() NOT
            text "v1a1a;v1a1a"
            chosen() NONE
            """);
    }

    private static void promises14To25() {
        sentence("Promise 14: one of the OTHER RULES (1 to 3); NONE. BAD; NOT: it has a FAULT (1, 2)", """
            other(0) BAD
            other(4) BAD
            other(-1) BAD
            other(MIN) BAD
            other(MAX) BAD
            other(1) NOT
            other(2) NOT
            other(3) NONE
            player(0)
            other(3) 0
            text "v1a1a"
            other(1) 0
            other(2) NONE
            other(3) 0
            other(0) BAD
            other(4) BAD
            type(0)
            other(1) NOT
            other(2) NOT
            other(3) 0
            """);
        sentence("Promise 15: CHANCE of a SKILL: what it was. BAD", """
            chance(MIN, 0) BAD
            chance(MAX, 0) BAD
            chance(0, MIN) BAD
            chance(0, MAX) BAD
            chance(-1, 50) BAD
            chance(5, 50) BAD
            chance(4, -1) BAD
            chance(4, 101) BAD
            chance(0, 100) 10
            chance(0, 0) 100
            chance(4, 90) 90
            chance(4, 90) 90
            """);
        sentence("Promise 16: THROUGH a ROUND with x (1 to 100). BAD", """
            jurors(1)
            passes(0, 1) 100000
            passes(0, 100) 100000
            passes(4, 1) 900000
            passes(0, 0) BAD
            passes(0, 101) BAD
            passes(0, MIN) BAD
            passes(0, MAX) BAD
            passes(-1, 1) BAD
            passes(5, 1) BAD
            passes(MIN, 1) BAD
            passes(MAX, 1) BAD
            """);
        sentence("Promise 17: THROUGH all ROUNDS. BAD; NOT", """
            jurors(1)
            all(0) NOT
            all(5) BAD
            text "v1a1a"
            all(0) 100000
            all(4) 900000
            all(-1) BAD
            all(5) BAD
            all(MIN) BAD
            all(MAX) BAD
            text "v1a1a;v100a1a;v1a1a;v100a1a"
            all(0) 100
            all(4) 656100
            type(59)
            all(0) NOT
            """);
        sentence("Promise 18: ITS FALSE SHARE. BAD", """
            doubt(1, 0, 0, 1) 500000
            doubt(16, 0, 0, 0) BAD
            doubt(0, 16, 0, 0) BAD
            doubt(0, 0, 16, 0) BAD
            doubt(0, 0, 0, 16) BAD
            doubt(-1, 1, 1, 1) BAD
            doubt(1, -1, 1, 1) BAD
            doubt(1, 1, -1, 1) BAD
            doubt(1, 1, 1, -1) BAD
            doubt(MIN, MIN, MIN, MIN) BAD
            doubt(MAX, MAX, MAX, MAX) BAD
            doubt(15, 15, 15, 15) 601727
            """);
        sentence("Promise 19: MORNING: 0 a .. 4 ITS FALSE SHARE. BAD: also no such ROUND; NOT: THE BYLAW has a FAULT", """
            morning(0, 0) NOT
            player(0)
            player(0)
            player(0)
            player(0)
            ballot 0 yyyyy nnnnn yyyyy nnnnn
            text "v1a1a"
            morning(0, 0) 1
            morning(0, 1) 1
            morning(0, 2) 1
            morning(0, 3) 1
            morning(0, 4) 833333
            morning(0, 5) BAD
            morning(0, -1) BAD
            morning(1, 0) BAD
            morning(3, 0) BAD
            morning(4, 0) BAD
            morning(-1, 0) BAD
            morning(MIN, 0) BAD
            morning(MAX, 0) BAD
            morning(0, MIN) BAD
            morning(0, MAX) BAD
            text "v1a1a;v1a1a;v1a1a;v1a1a"
            morning(3, 4) 1000000
            type(59)
            morning(0, 0) NOT
            """);
        sentence("Promise 20: A PLAYER is on TRIAL: its place. BAD; NOT: it is already; FULL", """
            trial(0) BAD
            trial(-1) BAD
            trial(MIN) BAD
            trial(MAX) BAD
            player(0)
            trial(1) BAD
            trial(0) 0
            trial(0) NOT
            player(0)
            trial(1) 1
            trial(1) NOT
            trial(0) NOT
            count(4) 2
            """);
        sentence("Promise 21: A mark for a WEEK more of a place: how many it has. BAD; FULL", """
            week(0, 0) BAD
            player(0)
            week(0, 0) BAD
            trial(0)
            week(0, 0) 1
            week(0, 20) 2
            week(0, MIN) BAD
            week(0, MAX) BAD
            week(MIN, 0) BAD
            week(MAX, 0) BAD
            week(1, 0) BAD
            8 * week(0, 5) 3+
            week(0, 5) FULL
            player(0)
            trial(1)
            week(1, 5) 1
            """);
        sentence("Promise 22: BETTER than another: 1; the other is: 0; neither: NONE. BAD: also itself", """
            better(0, 0) BAD
            better(0, 1) BAD
            player(0)
            player(0)
            trial(1)
            better(0, 0) BAD
            better(0, 1) BAD
            better(1, 0) BAD
            trial(0)
            better(0, 1) NONE
            better(1, 0) NONE
            better(0, 0) BAD
            better(1, 1) BAD
            better(2, 0) BAD
            better(0, 2) BAD
            better(-1, 0) BAD
            better(0, -1) BAD
            better(MIN, MAX) BAD
            week(0, 1)
            week(1, 0)
            better(0, 1) 1
            better(1, 0) 0
            """);
        sentence("Promise 23: THE SEAT: the PLAYER; NONE", """
            seat() NONE
            24 * player(0)
            seat() NONE
            trial(23) 0
            seat() 23
            trial(22) 1
            seat() NONE
            week(1, 0)
            seat() NONE
            week(0, 0)
            seat() NONE
            week(1, 1)
            week(0, 0)
            seat() 22
            """);
        sentence("Promise 24: A number was heard in a YEAR, through so many ROUNDS: how many are kept. BAD; FULL", """
            hear(MIN, 0, 0) BAD
            hear(MAX, 0, 0) BAD
            hear(0, MIN, 0) BAD
            hear(0, MAX, 0) BAD
            hear(0, 0, MIN) BAD
            hear(0, 0, MAX) BAD
            count(5) 0
            59 * hear(5, 0, 0) 1+
            hear(999999, 99, 4) 60
            hear(5, 0, 0) FULL
            known(5, 0) 59
            known(999999, 0) 1
            count(5) 60
            """);
        sentence("Promise 25: Known: 0 how often, 1 the greatest ROUNDS, 2 the latest YEAR (NONE: never). BAD", """
            known(5, 0) 0
            known(5, 1) NONE
            known(5, 2) NONE
            known(0, 0) 0
            known(0, 1) NONE
            known(0, 2) NONE
            hear(5, 0, 0) 1
            known(5, 0) 1
            known(5, 1) 0
            known(5, 2) 0
            known(5, 3) BAD
            known(5, -1) BAD
            known(-1, 0) BAD
            known(1000000, 0) BAD
            known(MIN, MIN) BAD
            known(MAX, MAX) BAD
            known(999999, 0) 0
            """);
    }

    private static void promises26To29() {
        sentence("Promise 26: A SHEET is a new row of a FORM with n items: n. BAD: SHEET, FORM, above 240; SIZE", """
            sheet(0, 0, 0) 0
            sheet(3, 2, 240) 240
            sheet(3, 2, 241) BAD
            sheet(3, 2, MAX) BAD
            sheet(3, 2, -1) SIZE
            sheet(3, 2, MIN) SIZE
            sheet(-1, 0, 0) BAD
            sheet(4, 0, 0) BAD
            sheet(MIN, 0, 0) BAD
            sheet(MAX, 0, 0) BAD
            sheet(0, -1, 0) BAD
            sheet(0, 3, 0) BAD
            sheet(0, MIN, 0) BAD
            sheet(0, MAX, 0) BAD
            lose(3) 240
            lose(0) 0
            sheet(1, 1, -1) SIZE
            lose(1) NULL
            """);
        sentence("Promise 26: a new row: another FORM, another number of items", """
            sheet(0, 0, 2) 2
            put(0, 0, 1, 5) 1
            sheet(0, 2, 3) 3
            get(0, 0, 1) CAST
            get(0, 2, 1) 0
            get(0, 2, 2) 0
            put(0, 2, 2, 5) 1
            sheet(0, 2, 2) 2
            get(0, 2, 2) INDEX
            sheet(0, 2, 3) 3
            get(0, 2, 2) 0
            """);
        sentence("Promise 27: It is LOST: how many items it had. BAD; NULL", """
            lose(0) NULL
            sheet(0, 0, 0) 0
            lose(0) 0
            lose(0) NULL
            sheet(3, 2, 240) 240
            lose(3) 240
            lose(3) NULL
            lose(-1) BAD
            lose(4) BAD
            lose(MIN) BAD
            lose(MAX) BAD
            put(3, 2, 0, 1) NULL
            get(3, 2, 0) NULL
            """);
        sentence("Promise 28: Item i becomes v (the lowest bits that it has): 1. BAD; NULL; CAST; INDEX", """
            put(0, 0, 0, 1) NULL
            sheet(0, 0, 2)
            sheet(1, 1, 2)
            sheet(2, 2, 2)
            put(0, 0, 1, 384) 1
            get(0, 0, 1) -128
            get(0, 0, 0) 0
            put(1, 1, 1, 98304) 1
            get(1, 1, 1) -32768
            get(1, 1, 0) 0
            put(2, 2, 1, MIN) 1
            get(2, 2, 1) MIN
            get(2, 2, 0) 0
            put(0, 1, 0, 1) CAST
            put(0, 2, 0, 1) CAST
            put(1, 0, 0, 1) CAST
            put(1, 2, 0, 1) CAST
            put(2, 0, 0, 1) CAST
            put(2, 1, 0, 1) CAST
            put(0, 0, 2, 1) INDEX
            put(0, 0, -1, 1) INDEX
            put(0, 0, 240, 1) INDEX
            put(0, 0, MIN, 1) INDEX
            put(0, 0, MAX, 1) INDEX
            put(3, 0, 0, 1) NULL
            put(4, 0, 0, 1) BAD
            put(-1, 0, 0, 1) BAD
            put(MIN, 0, 0, 1) BAD
            put(MAX, 0, 0, 1) BAD
            put(0, -1, 0, 1) BAD
            put(0, 3, 0, 1) BAD
            put(0, MIN, 0, 1) BAD
            put(0, MAX, 0, 1) BAD
            """);
        sentence("Promise 29: Item i of it. BAD: the least int; so are NULL, CAST, INDEX (count() 6 tells)", """
            get(4, 0, 0) BAD
            get(-1, 0, 0) BAD
            get(0, 3, 0) BAD
            get(0, -1, 0) BAD
            get(MIN, 0, 0) BAD
            get(MAX, 0, 0) BAD
            get(0, MIN, 0) BAD
            get(0, MAX, 0) BAD
            count(6) 0
            get(0, 0, 0) NULL
            count(6) 1
            sheet(0, 0, 1)
            get(0, 1, 0) CAST
            get(0, 2, 0) CAST
            count(6) 3
            get(0, 0, 1) INDEX
            get(0, 0, -1) INDEX
            get(0, 0, MIN) INDEX
            get(0, 0, MAX) INDEX
            count(6) 2
            get(4, 0, 0) BAD
            count(6) 2
            get(0, 0, 0) 0
            count(6) 2
            """);
    }

    private static void promises30To32() {
        sentence("Promise 30: n items of SHEET s, from i on, come to SHEET t, from j on: 1: the empty and the full", """
            sheet(0, 2, 240)
            sheet(1, 2, 240)
            sheet(2, 2, 0)
            put(0, 2, 0, MIN)
            put(0, 2, 239, MAX)
            copy(0, 0, 1, 0, 0) 1
            get(1, 2, 0) 0
            copy(0, 240, 1, 240, 0) 1
            copy(2, 0, 2, 0, 0) 1
            copy(2, 0, 1, 240, 0) 1
            copy(2, 1, 1, 0, 0) INDEX
            copy(1, 0, 2, 1, 0) INDEX
            copy(0, 0, 1, 0, 240) 1
            get(1, 2, 0) MIN
            get(1, 2, 239) MAX
            get(1, 2, 238) 0
            copy(0, 0, 1, 0, 241) INDEX
            copy(0, 1, 1, 0, 240) INDEX
            copy(0, 0, 1, 1, 240) INDEX
            copy(0, 239, 1, 238, 1) 1
            get(1, 2, 238) MAX
            copy(0, 240, 1, 0, 1) INDEX
            copy(0, 0, 1, 240, 1) INDEX
            copy(0, 241, 1, 0, 0) INDEX
            copy(0, 0, 1, 241, 0) INDEX
            """);
        sentence("Promise 30: perhaps s, as they were", """
            sheet(0, 0, 4)
            put(0, 0, 0, 1)
            put(0, 0, 1, 2)
            put(0, 0, 2, 3)
            put(0, 0, 3, 4)
            copy(0, 0, 0, 0, 4) 1
            get(0, 0, 3) 4
            copy(0, 0, 0, 1, 3) 1
            get(0, 0, 0) 1
            get(0, 0, 1) 1
            get(0, 0, 2) 2
            get(0, 0, 3) 3
            copy(0, 1, 0, 0, 3) 1
            get(0, 0, 0) 1
            get(0, 0, 1) 2
            get(0, 0, 2) 3
            get(0, 0, 3) 3
            copy(0, 0, 0, 2, 2) 1
            get(0, 0, 2) 1
            get(0, 0, 3) 2
            """);
        sentence("Promise 30: BAD: the SHEETS; NULL: s, t; STORE; INDEX: below 0, not so many", """
            sheet(0, 0, 5)
            sheet(1, 0, 3)
            sheet(2, 1, 5)
            copy(-1, 0, 0, 0, 1) BAD
            copy(4, 0, 0, 0, 1) BAD
            copy(0, 0, -1, 0, 1) BAD
            copy(0, 0, 4, 0, 1) BAD
            copy(MIN, 0, MAX, 0, 1) BAD
            copy(3, 0, 0, 0, 1) NULL
            copy(0, 0, 3, 0, 1) NULL
            copy(3, 0, 3, 0, 0) NULL
            copy(0, 0, 2, 0, 1) STORE
            copy(2, 0, 0, 0, 1) STORE
            copy(0, -1, 1, 0, 1) INDEX
            copy(0, 0, 1, -1, 1) INDEX
            copy(0, 0, 1, 0, -1) INDEX
            copy(0, 0, 1, 0, MIN) INDEX
            copy(0, 0, 1, 0, MAX) INDEX
            copy(0, MAX, 1, 0, MAX) INDEX
            copy(0, 0, 1, MAX, MAX) INDEX
            copy(0, MIN, 1, MIN, MIN) INDEX
            copy(0, MAX, 1, 0, 1) INDEX
            copy(0, 0, 1, MAX, 1) INDEX
            copy(0, 1, 0, 0, MAX) INDEX
            copy(0, 0, 1, 0, 3) 1
            copy(0, 2, 1, 0, 3) 1
            copy(0, 0, 1, 0, 4) INDEX
            copy(0, 3, 1, 0, 3) INDEX
            copy(1, 0, 0, 2, 3) 1
            copy(1, 0, 0, 3, 3) INDEX
            copy(1, 1, 0, 0, 3) INDEX
            """);
        sentence("Promise 31: count() 0 to 6. BAD; 3 ROUNDS of it (0: it has a FAULT); 6 (0 before any)", """
            count(-1) BAD
            count(7) BAD
            count(MIN) BAD
            count(MAX) BAD
            count(6) 0
            3 * player(0)
            jurors(9)
            text "v1a1a;v1a1a;v1a1a;v1a1a"
            trial(0)
            trial(1)
            hear(1, 1, 1)
            sheet(0, 0, -1) SIZE
            count(0) 3
            count(1) 9
            count(2) 23
            count(3) 4
            count(4) 2
            count(5) 1
            count(6) 5
            type(59)
            count(2) 24
            count(3) 0
            """);
        digests();
    }

    private static void digests() {
        sentences++;
        ScreenVotes x = new ScreenVotes();
        due("Promise 32: digest() of a new object", x.digest(), 14503585154808L);
        x.lose(0);
        due("Promise 32: count() 0 to 5, not 6", x.digest(), 14503585154808L);
        for (int p = 0; p < 24; p++) {
            x.player(p);
        }
        x.draw(7);
        x.sheet(0, 0, 240);
        x.sheet(3, 0, 240);
        for (int p = 0; p < 24; p++) {
            x.put(3, 0, 10 * p, 1);
        }
        for (char b : "v1a1a;v1a1s;v1a1d;v1a1d".toCharArray()) {
            x.type(b);
        }
        x.trial(23);
        x.hear(1, 1, 1);
        due("Promise 32: as longs that wrap, of all 24", x.digest(), digestByCalls(x));
        ScreenVotes y = new ScreenVotes();
        y.player(0);
        due("Promise 32: chosen() (-3: NOT), of one PLAYER", y.digest(), digestByCalls(y));
        due("Promise 32: the last two are chosen() and seat()", y.digest() - 31 * -3 - -1, digestBefore(y) * 31 * 31);
    }

    private static long digestByCalls(ScreenVotes x) {
        return (digestBefore(x) * 31 + x.chosen()) * 31 + x.seat();
    }

    private static long digestBefore(ScreenVotes x) {
        List<Integer> each = new ArrayList<>();
        for (int what = 0; what <= 5; what++) {
            each.add(x.count(what));
        }
        int players = each.get(0);
        for (int i = 0; i < players; i++) {
            each.add(x.order(i));
        }
        for (int p = 0; p < players; p++) {
            for (int r = 0; r < 4; r++) {
                each.add(x.votes(p, r, 0));
                each.add(x.votes(p, r, 1));
            }
        }
        return each.stream().mapToLong(Integer::longValue).reduce(17, (h, v) -> 31 * h + v);
    }

    /** What one object is told is of no matter to another. */
    private static void objectsApart() {
        sentences++;
        ScreenVotes x = new ScreenVotes();
        x.player(0);
        x.jurors(9);
        x.chance(0, 77);
        x.sheet(0, 0, 9);
        x.type('v');
        x.hear(5, 5, 4);
        x.trial(0);
        x.sheet(1, 0, -1);
        ScreenVotes y = new ScreenVotes();
        due("Promise 1: a new object beside another", y.digest(), 14503585154808L);
        due("Promise 1: its CHANCE", y.chance(0, 0), 10);
        due("Promise 1: its SHEETS", y.lose(0), -11);
        due("Promise 1: who was heard", y.known(5, 0), 0);
        due("Promise 1: the other one's finding", x.count(6), 5);
    }

    public static void main(String[] args) {
        WORDS.putAll(Map.of("NONE", -1L, "BAD", -2L, "NOT", -3L, "FULL", -4L));
        WORDS.putAll(Map.of("MIN", (long) Integer.MIN_VALUE, "MAX", (long) Integer.MAX_VALUE));
        for (int f = 0; f < FINDINGS.size(); f++) {
            WORDS.put(FINDINGS.get(f), -11L - f);
        }
        for (Method m : ScreenVotes.class.getDeclaredMethods()) {
            FACE.put(m.getName(), m);
        }
        calls512();
        players();
        rows();
        findings();
        items();
        bylawText();
        numbers();
        bytes();
        passing();
        shares();
        ties();
        orders();
        chosenOnes();
        otherRules();
        skills();
        tables();
        mornings();
        trials();
        heardBefore();
        firstThatFits();
        promises1To13();
        promises14To25();
        promises26To29();
        promises30To32();
        objectsApart();
        System.out.println(sentences + " sentences, " + twins + " calls that change nothing: "
            + (wrong == 0 ? "all hold" : wrong + " answers are not as due"));
        if (wrong != 0) {
            System.exit(1);
        }
    }
}
