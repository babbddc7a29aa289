import java.util.ArrayList;
import java.util.LinkedHashMap;
import java.util.List;
import java.util.Map;
import java.util.NoSuchElementException;

/**
 * One method for each sentence of the document that names a boundary, which stands above the
 * method: the last value that is allowed, the first that is not, and of each refused call that it
 * leaves no trace. Prints what is wrong, and exits with 1 if something is.
 */
public final class EchoPantryBoundariesTest {
    private static final Class<IndexOutOfBoundsException> INDEX = IndexOutOfBoundsException.class;
    private static final Class<NoSuchElementException> ELEMENT = NoSuchElementException.class;
    private static final Class<IllegalArgumentException> ARGUMENT = IllegalArgumentException.class;
    private static final Class<IllegalStateException> STATE = IllegalStateException.class;
    private static final Class<ArithmeticException> ARITHMETIC = ArithmeticException.class;
    private static final int LEAST = Integer.MIN_VALUE;
    private static final int GREATEST = Integer.MAX_VALUE;

    private static int checks = 0;
    private static int wrong = 0;

    // ---- how a call is tried -----------------------------------------------------------------

    private interface Call {
        Object on(EchoPantry x);
    }

    private interface Setup {
        void on(EchoPantry x);
    }

    private interface NumberCall {
        Object on(EchoPantry x, int number);
    }

    private static void due(String what, Object want, Object got) {
        checks++;
        if (!want.equals(got)) {
            wrong++;
            if (wrong <= 40) {
                System.out.println(what + " answered " + got + ", due is " + want);
            }
        }
    }

    private static Object answer(EchoPantry x, Call call) {
        try {
            return call.on(x);
        } catch (RuntimeException e) {
            return e.getClass();
        }
    }

    private static EchoPantry made(Setup setup) {
        EchoPantry x = new EchoPantry();
        setup.on(x);
        return x;
    }

    private static void accepts(Setup setup, Object want, String what, Call call) {
        due(what, want, answer(made(setup), call));
    }

    /** What the first setup makes is due to answer as what the second makes, whatever is called. */
    private static void same(String what, Setup first, Setup second) {
        for (Map.Entry<String, Probe> probe : PROBES.entrySet()) {
            due(what + " leaves " + probe.getKey(), told(made(first), probe.getValue()),
                    told(made(second), probe.getValue()));
        }
    }

    private static Object positionIn(Setup setup) {
        return answer(made(setup), EchoPantry::errorPosition);
    }

    private static Object indexIn(Setup setup) {
        return answer(made(setup), EchoPantry::failedCommand);
    }

    /** The call is due to be refused, and to leave no trace that any later call could tell. */
    private static void refuses(Setup setup, Class<?> want, String what, Call call) {
        Setup refused = then(setup, x -> due(what, want, answer(x, call)));
        same(what, setup, refused);
        due(what + " leaves the error position", positionIn(setup), positionIn(refused));
        due(what + " leaves the failed command", indexIn(setup), indexIn(refused));
    }

    /** The text is due to be refused, and to change the error position alone; the setup types nothing. */
    private static void malformed(Setup setup, String text, int position) {
        String what = "the text '" + text + "'";
        Setup refused = then(setup, x -> due(what, ARGUMENT, execute(x, text)));
        same(what, setup, refused);
        due(what + " stores its error position", position, positionIn(refused));
        due(what + " leaves the failed command", indexIn(setup), indexIn(refused));
    }

    /** The text is due to fail at a command, and to change its index alone; the setup types nothing. */
    private static void fails(Setup setup, String text, int index) {
        String what = "the text '" + text + "'";
        Setup refused = then(setup, x -> due(what, STATE, execute(x, text)));
        same(what, setup, refused);
        due(what + " leaves the error position", positionIn(setup), positionIn(refused));
        due(what + " stores its failed command", index, indexIn(refused));
    }

    /** Every number from low to high is taken, and none below or above. */
    private static void range(Setup setup, int low, int high, Class<?> want, String what, NumberCall call) {
        for (int number = low; number <= high; number++) {
            int taken = number;
            Object got = answer(made(setup), x -> call.on(x, taken));
            due(what + " " + number + " is taken", false, got instanceof Class);
        }
        for (int number : new int[] {low - 1, high + 1, low - 2, high + 256, high + 65536, LEAST, GREATEST}) {
            refuses(setup, want, what + " " + number, x -> call.on(x, number));
        }
    }

    private static Setup then(Setup first, Setup second) {
        return x -> {
            first.on(x);
            second.on(x);
        };
    }

    private static void type(EchoPantry x, String text) {
        for (int i = 0; i < text.length(); i++) {
            x.type(text.charAt(i));
        }
    }

    private static Object execute(EchoPantry x, String text) {
        type(x, text);
        return answer(x, EchoPantry::execute);
    }

    private static String line(EchoPantry x, int shelf) {
        int length = x.writeShelf(shelf);
        StringBuilder line = new StringBuilder();
        for (int i = 0; i < length; i++) {
            line.append(x.lineAt(i));
        }
        return line.toString();
    }

    // ---- what can be told of a pantry --------------------------------------------------------

    private interface Probe {
        void tell(EchoPantry x, List<Object> log);
    }

    private static final Map<String, Probe> PROBES = new LinkedHashMap<>();

    static {
        PROBES.put("jars, warmings, statistics and line", EchoPantryBoundariesTest::tellAllButShelves);
        PROBES.put("shelves", EchoPantryBoundariesTest::tellShelves);
        PROBES.put("lines of shelves", EchoPantryBoundariesTest::tellLines);
        PROBES.put("what can be undone", EchoPantryBoundariesTest::tellUndo);
        PROBES.put("snapshot", EchoPantryBoundariesTest::tellSnapshot);
        PROBES.put("length of the buffer", (x, log) -> log.add(answer(x, y -> y.type('#'))));
        PROBES.put("text in the buffer", EchoPantryBoundariesTest::tellText);
        PROBES.put("what comes later", EchoPantryBoundariesTest::tellLater);
    }

    private static String told(EchoPantry x, Probe probe) {
        List<Object> log = new ArrayList<>();
        probe.tell(x, log);
        return log.toString();
    }

    private static void tellAllButShelves(EchoPantry x, List<Object> log) {
        tellState(x, log);
        for (int i = 0; i < 40; i++) {
            int index = i;
            log.add(answer(x, y -> y.lineAt(index)));
        }
    }

    private static void tellState(EchoPantry x, List<Object> log) {
        log.add(x.jarCount());
        for (int i = 0; i < 13; i++) {
            int position = i;
            log.add(answer(x, y -> y.jarAt(position)));
        }
        for (char c = 'a'; c <= 'm'; c++) {
            char letter = c;
            log.add(answer(x, y -> y.wordOf(letter)));
        }
        log.add(x.time());
        log.add(x.warmingCount());
        for (int i = 0; i < 9; i++) {
            int position = i;
            log.add(answer(x, y -> y.warmingMinute(position)));
            log.add(answer(x, y -> y.warmingJar(position)));
        }
        log.add(x.hits() + " " + x.misses('c') + " " + x.misses('e') + " " + x.misses('o'));
        log.add(answer(x, EchoPantry::hitShare));
        log.add(answer(x, EchoPantry::meanAge));
        for (int i = 0; i < 5; i++) {
            int rank = i;
            log.add(answer(x, y -> y.shelfByHits(rank)));
        }
        log.add(x.isConsistent());
    }

    private static void tellShelves(EchoPantry x, List<Object> log) {
        log.add(x.shelfCount());
        for (int s = 0; s < x.shelfCount(); s++) {
            int shelf = s;
            log.add(x.capacityOf(s) + " " + x.lifetimeOf(s) + " " + x.policyOf(s) + " " + x.isListening(s));
            log.add(answer(x, y -> y.victimOf(shelf)));
            log.add(answer(x, y -> y.victimByScan(shelf)));
            log.add(x.echoCount(s));
            for (int p = 0; p < x.echoCount(s); p++) {
                char c = x.echoAt(s, p);
                log.add(c + " " + x.echoOf(s, c) + " " + x.ageOf(s, c) + " " + x.hitsOf(s, c) + " "
                        + x.isExpired(s, c) + " " + x.isOpen(s, c) + " " + x.isTrue(s, c) + " "
                        + x.isTrueBySteps(s, c) + " " + x.outcomeOf(s, c));
            }
        }
    }

    private static void tellLines(EchoPantry x, List<Object> log) {
        for (int shelf = 0; shelf < x.shelfCount(); shelf++) {
            log.add(line(x, shelf));
        }
    }

    private static void tellBriefly(EchoPantry x, List<Object> log) {
        log.add(x.time() + " " + x.jarCount() + " " + x.shelfCount() + " " + x.warmingCount());
        log.add(x.hits() + " " + x.misses('c') + " " + answer(x, y -> y.wordOf('a')));
        for (int s = 0; s < x.shelfCount(); s++) {
            int shelf = s;
            log.add(x.echoCount(s) + " " + x.isListening(s) + " " + answer(x, y -> y.victimOf(shelf)));
        }
    }

    private static void tellUndo(EchoPantry x, List<Object> log) {
        for (int i = 0; i < 9; i++) {
            log.add(answer(x, EchoPantry::undo));
            tellBriefly(x, log);
        }
    }

    private static void tellSnapshot(EchoPantry x, List<Object> log) {
        log.add(answer(x, EchoPantry::restore));
        tellState(x, log);
        tellLines(x, log);
    }

    private static void tellText(EchoPantry x, List<Object> log) {
        Object commands = answer(x, EchoPantry::execute);
        log.add(commands);
        if (commands == ARGUMENT) {
            log.add(x.errorPosition());
        }
        if (commands == STATE) {
            log.add(x.failedCommand());
        }
        tellBriefly(x, log);
    }

    private static void tellLater(EchoPantry x, List<Object> log) {
        for (int s = 0; s < 4; s++) {
            for (char c = 'a'; c <= 'd'; c++) {
                int shelf = s;
                char letter = c;
                log.add(answer(x, y -> y.hear(shelf, letter)));
            }
        }
        log.add(answer(x, y -> y.addJar('m', 0)));
        log.add(answer(x, y -> y.addShelf(1, 1, 'o')));
        log.add(answer(x, y -> y.warm(0, 'a', 2)));
        log.add(answer(x, y -> y.say('a', 1)));
        log.add(answer(x, y -> y.pass(3)));
        tellBriefly(x, log);
        tellLines(x, log);
    }

    // ---- pantries to begin with --------------------------------------------------------------

    private static void empty(EchoPantry x) {
    }

    /** Jars a (10), b (20), c (30). */
    private static void threeJars(EchoPantry x) {
        x.addJar('c', 30);
        x.addJar('a', 10);
        x.addJar('b', 20);
    }

    private static void shelves(EchoPantry x) {
        threeJars(x);
        x.addShelf(2, 5, 'r');
        x.addShelf(3, 4, 'o');
        x.addShelf(2, 6, 'l');
    }

    /** Something of everything that a refused call could spoil, and more than 8 modifications. */
    private static void bare(EchoPantry x) {
        shelves(x);
        x.setListening(2, false);
        execute(x, "pass #");
        execute(x, "pass 1;pass 0");
        x.hear(0, 'a');
        x.hear(0, 'a');
        x.hear(1, 'b');
        x.hear(2, 'c');
        x.hear(2, 'a');
        x.hear(2, 'a');
        x.pass(2);
        x.warm(0, 'b', 9);
        x.warm(1, 'a', 1);
        x.warm(2, 'b', 5);
        x.save();
        x.say('a', 11);
        x.pass(3);
        x.hear(1, 'a');
        x.hear(1, 'b');
        x.hear(2, 'c');
        x.say('c', 31);
        x.hear(0, 'b');
        x.hear(0, 'c');
        x.writeShelf(2);
    }

    /** As bare, but with a text in the buffer. */
    private static void busy(EchoPantry x) {
        bare(x);
        type(x, "pass 7");
    }

    /** As busy, but only four modifications, and neither a snapshot nor a wrong text. */
    private static void few(EchoPantry x) {
        execute(x, "jar a 10;jar b 20;jar c 30;shelf 2 5 r;shelf 2 4 l");
        execute(x, "hear 0 a;hear 0 b;hear 1 a;hear 0 a;warm 0 c 3;warm 1 b 9");
        x.pass(2);
        x.say('a', 11);
    }

    private static void twelveJars(EchoPantry x) {
        for (char letter = 'a'; letter <= 'l'; letter++) {
            x.addJar(letter, letter - 'a');
        }
    }

    private static void fourShelves(EchoPantry x) {
        for (int shelf = 0; shelf < 4; shelf++) {
            x.addShelf(1 + shelf, 2 + shelf, "rolr".charAt(shelf));
        }
    }

    private static void eightWarmings(EchoPantry x) {
        for (int i = 0; i < 8; i++) {
            x.warm(i % x.shelfCount(), (char) ('a' + i % 3), 50 - 7 * (i % 4));
        }
    }

    /** All that there can be: 12 jars, 4 shelves, 8 warmings, 8 modifications. */
    private static void crowded(EchoPantry x) {
        twelveJars(x);
        fourShelves(x);
        x.hear(0, 'a');
        x.hear(1, 'b');
        x.hear(1, 'c');
        x.hear(2, 'd');
        x.save();
        eightWarmings(x);
    }

    /** As crowded, but with 60 characters in the buffer. */
    private static void full(EchoPantry x) {
        crowded(x);
        type(x, "hear 0 a;pass 1;".repeat(3) + "deaf 1;say a");
    }

    private static final Setup EMPTY = EchoPantryBoundariesTest::empty;
    private static final Setup SHELVES = EchoPantryBoundariesTest::shelves;
    private static final Setup BARE = EchoPantryBoundariesTest::bare;
    private static final Setup BUSY = EchoPantryBoundariesTest::busy;
    private static final Setup FEW = EchoPantryBoundariesTest::few;
    private static final Setup CROWDED = EchoPantryBoundariesTest::crowded;
    private static final Setup FULL = EchoPantryBoundariesTest::full;
    private static final Setup TWELVE = EchoPantryBoundariesTest::twelveJars;
    private static final Setup FOUR = EchoPantryBoundariesTest::fourShelves;
    private static final Setup EIGHT = then(SHELVES, EchoPantryBoundariesTest::eightWarmings);

    private static int length(Setup setup) {
        return (Integer) made(setup).type('#') - 1;
    }

    private static void theSetups() {
        due("the full buffer", STATE, answer(made(FULL), x -> x.type('#')));
        due("the busy buffer", 6, length(BUSY));
        due("the busy error position", 5, made(BUSY).errorPosition());
        due("the busy failed command", 1, made(BUSY).failedCommand());
        due("the few modifications", 3, made(FEW).undo());
        due("eight warmings", 8, made(EIGHT).warmingCount());
    }

    // ---- What it is --------------------------------------------------------------------------

    /** "An object is used for at most 512 calls": the calls are made as often as they may be, each with its answer. */
    private static void theLastOf512Calls() {
        Setup heard = x -> {
            x.addJar('a', 10);
            x.addShelf(1, 30, 'r');
            x.hear(0, 'a');
        };
        lastCall(heard, 508, 1, (x, i) -> due("pass", 0, x.pass(60)), 30480, x -> x.ageOf(0, 'a'));
        lastCall(heard, 508, 1, (x, i) -> due("say", i == 0 ? 1 : 0, x.say('a', i % 100)), false, x -> x.isTrue(0, 'a'));
        lastCall(heard, 508, 1, (x, i) -> due("hear", 10, x.hear(0, 'a')), 508, x -> x.hitsOf(0, 'a'));
        lastCall(heard, 254, 2, (x, i) -> {
            due("warm", 0, x.warm(0, 'a', 1));
            due("pass", 1, x.pass(1));
        }, 254, EchoPantry::time);
        lastCall(heard, 254, 2, (x, i) -> {
            due("removeJar", i == 0 ? 1 : 0, x.removeJar('a'));
            due("addJar", 1, x.addJar('a', i % 100));
        }, 53, x -> x.wordOf('a'));
        lastCall(heard, 254, 2, (x, i) -> {
            due("say", 1, x.say('a', 11));
            due("undo", 3, x.undo());
        }, 10, x -> x.wordOf('a'));
        lastCall(heard, 169, 3, (x, i) -> {
            due("save", 1, x.save());
            due("setListening", true, x.setListening(0, false));
            due("restore", 1, x.restore());
        }, true, x -> x.isListening(0));
        lastCall(heard, 72, 7, (x, i) -> due("execute", 1, execute(x, "pass 9")), 648, EchoPantry::time);
    }

    private interface Round {
        void on(EchoPantry x, int round);
    }

    /** Rounds of some calls each, behind a setup of 3 calls, and the last call. */
    private static void lastCall(Setup setup, int rounds, int calls, Round round, Object want, Call last) {
        due("a run of at most 512 calls", true, 3 + rounds * calls + 1 <= 512 && 3 + (rounds + 1) * calls + 1 > 512);
        EchoPantry x = made(setup);
        for (int i = 0; i < rounds; i++) {
            round.on(x, i);
        }
        due("the last call", want, answer(x, last));
    }

    // ---- Terms: jars -------------------------------------------------------------------------

    /** "There are at most 12 jars." */
    private static void atMostTwelveJars() {
        for (int jars = 0; jars < 12; jars++) {
            int before = jars;
            Setup some = x -> {
                for (int i = 0; i < before; i++) {
                    x.addJar((char) ('z' - i), i);
                }
            };
            accepts(some, jars + 1, "jar " + (jars + 1), x -> x.addJar('a', 9));
        }
        for (char letter = 'm'; letter <= 'z'; letter++) {
            char thirteenth = letter;
            refuses(TWELVE, STATE, "a 13th jar " + letter, x -> x.addJar(thirteenth, 9));
        }
        refuses(FULL, STATE, "a 13th jar of a full pantry", x -> x.addJar('m', 0));
        accepts(then(TWELVE, x -> x.removeJar('f')), 12, "a jar in a place that is free again", x -> x.addJar('m', 0));
        fails(TWELVE, "say a 1;jar m 1", 1);
        accepts(then(TWELVE, x -> type(x, "drop a;jar m 1")), 2, "a jar for another in a text", EchoPantry::execute);
    }

    private static boolean isLetter(char character) {
        return "abcdefghijklmnopqrstuvwxyz".indexOf(character) >= 0;
    }

    /** "Each jar has a letter from a to z" */
    private static void lettersFromAToZ() {
        for (int code = 0; code < 65536; code += code < 400 ? 1 : 85) {
            char letter = (char) code;
            accepts(EMPTY, isLetter(letter) ? 1 : ARGUMENT, "a jar with letter " + code, x -> x.addJar(letter, 1));
        }
        for (int high = 1; high < 256; high++) {
            char letter = (char) (256 * high + 'a');
            accepts(EMPTY, ARGUMENT, "a jar with letter " + (int) letter, x -> x.addJar(letter, 1));
        }
        for (char letter : new char[] {'`', '{', '@', 'A', 'Z', 0, ' ', (char) 225, (char) 65535}) {
            refuses(BUSY, ARGUMENT, "a jar with letter " + (int) letter, x -> x.addJar(letter, 1));
        }
    }

    /** The first and the last letter, in each of the orders of letters. */
    private static void firstAndLastLetter() {
        EchoPantry x = new EchoPantry();
        x.addShelf(2, 5, 'r');
        x.addJar('z', 0);
        x.addJar('a', 99);
        x.hear(0, 'z');
        x.hear(0, 'a');
        due("jars", "az", "" + x.jarAt(0) + x.jarAt(1));
        due("echoes", "az", "" + x.echoAt(0, 0) + x.echoAt(0, 1));
        due("line", "a99 z0", line(x, 0));
        x.removeJar('a');
        due("line of z", "z0", line(x, 0));
        due("echo z", 'z', x.echoAt(0, 0));
        due("jar z", 'z', x.jarAt(0));
        x.undo();
        due("line after undo", "a99 z0", line(x, 0));
    }

    /** "which no other jar has" */
    private static void aLetterOfOneJar() {
        for (char letter = 'a'; letter <= 'z'; letter++) {
            char same = letter;
            accepts(x -> x.addJar(same, 1), STATE, "a second jar " + letter, x -> x.addJar(same, 1));
            accepts(x -> x.addJar(same, 1), 2, "a jar beside " + letter,
                    x -> x.addJar(same == 'z' ? 'a' : (char) (same + 1), 1));
        }
        refuses(BUSY, STATE, "a second jar a", x -> x.addJar('a', 10));
        refuses(FULL, STATE, "a second jar l", x -> x.addJar('l', 99));
        accepts(then(BUSY, x -> x.removeJar('a')), 3, "a letter that is free again", x -> x.addJar('a', 10));
        fails(BARE, "jar d 1;jar d 1", 1);
    }

    /** "a word, a number from 0 to 99, which it said last" */
    private static void wordsFrom0To99() {
        range(SHELVES, 0, 99, ARGUMENT, "a first word", (x, word) -> x.addJar('d', word));
        range(BUSY, 0, 99, ARGUMENT, "a word that is said", (x, word) -> x.say('a', word));
        for (int word = 0; word <= 99; word++) {
            EchoPantry x = new EchoPantry();
            x.addJar('a', word);
            due("the first word", word, x.wordOf('a'));
            x.say('a', 99 - word);
            due("the word said last", 99 - word, x.wordOf('a'));
        }
    }

    // ---- Terms: shelves ----------------------------------------------------------------------

    /** "There are at most 4 shelves, numbered from 0." */
    private static void atMostFourShelves() {
        for (int shelves = 0; shelves < 4; shelves++) {
            int before = shelves;
            Setup some = x -> {
                for (int i = 0; i < before; i++) {
                    x.addShelf(1, 1, 'r');
                }
            };
            accepts(some, shelves, "shelf " + shelves, x -> x.addShelf(6, 30, 'l'));
            for (int shelf = 0; shelf < shelves; shelf++) {
                int there = shelf;
                accepts(some, 1, "shelf " + shelf + " of " + shelves, x -> x.capacityOf(there));
            }
            refuses(some, INDEX, "shelf " + shelves + " of " + shelves, x -> x.capacityOf(before));
        }
        refuses(FOUR, STATE, "a fifth shelf", x -> x.addShelf(1, 1, 'r'));
        refuses(FULL, STATE, "a fifth shelf of a full pantry", x -> x.addShelf(6, 30, 'l'));
        fails(BARE, "shelf 1 1 r;shelf 1 1 r", 1);
        accepts(then(BUSY, x -> type(x, ";shelf 1 1 r")), 2, "a fourth shelf in a text", EchoPantry::execute);
    }

    /** "A shelf has a capacity from 1 to 6" */
    private static void capacitiesFrom1To6() {
        range(BUSY, 1, 6, ARGUMENT, "a capacity", (x, capacity) -> x.addShelf(capacity, 5, 'r'));
        for (int capacity = 1; capacity <= 6; capacity++) {
            int given = capacity;
            accepts(x -> x.addShelf(given, 5, 'o'), capacity, "capacityOf", x -> x.capacityOf(0));
        }
        fails(BARE, "shelf 0 1 r", 0);
        fails(BARE, "shelf 7 1 r", 0);
    }

    /** "a lifetime from 1 to 30 minutes" */
    private static void lifetimesFrom1To30() {
        range(BUSY, 1, 30, ARGUMENT, "a lifetime", (x, lifetime) -> x.addShelf(2, lifetime, 'l'));
        for (int lifetime = 1; lifetime <= 30; lifetime++) {
            int given = lifetime;
            accepts(x -> x.addShelf(2, given, 'o'), lifetime, "lifetimeOf", x -> x.lifetimeOf(0));
        }
        fails(BARE, "shelf 1 0 r", 0);
        fails(BARE, "shelf 1 00 r", 0);
        fails(BARE, "shelf 1 31 r", 0);
    }

    /** "and a policy": "r, o or l" */
    private static void policiesROL() {
        for (int code = 0; code < 65536; code += code < 400 ? 1 : 85) {
            char policy = (char) code;
            boolean isOne = "rol".indexOf(policy) >= 0;
            accepts(EMPTY, isOne ? 0 : ARGUMENT, "a policy " + code, x -> x.addShelf(1, 1, policy));
        }
        for (char policy : "qsnpkmROL".toCharArray()) {
            refuses(BUSY, ARGUMENT, "a policy " + policy, x -> x.addShelf(1, 1, policy));
        }
        for (char policy : "rol".toCharArray()) {
            accepts(x -> x.addShelf(1, 1, policy), policy, "policyOf", x -> x.policyOf(0));
        }
    }

    /** "and listens to the jars or not (initially it listens)" */
    private static void initiallyItListens() {
        for (int shelf = 0; shelf < 4; shelf++) {
            int listening = shelf;
            accepts(FOUR, true, "a new shelf listens", x -> x.isListening(listening));
            accepts(FOUR, true, "a new shelf listened", x -> x.setListening(listening, false));
            accepts(then(FOUR, x -> x.setListening(listening, false)), false, "it does not listen any more",
                    x -> x.isListening(listening));
        }
        Setup again = then(FOUR, x -> {
            x.setListening(3, false);
            x.undo();
            x.undo();
            x.addShelf(1, 1, 'r');
        });
        accepts(again, true, "a new shelf in the place of a deaf one listens", x -> x.isListening(3));
    }

    /** "It keeps at most one echo of each jar" */
    private static void oneEchoOfEachJar() {
        EchoPantry x = made(SHELVES);
        for (int i = 0; i < 5; i++) {
            x.hear(1, 'a');
            due("one echo after a hit or a cold miss", 1, x.echoCount(1));
            x.say('a', i);
            x.hear(1, 'a');
            due("one echo after an open one", 1, x.echoCount(1));
            x.pass(4);
            x.hear(1, 'a');
            due("one echo after an expired one", 1, x.echoCount(1));
            x.warm(1, 'a', 1);
            x.warm(1, 'a', 1);
            x.pass(1);
            due("one echo after two warmings", 1, x.echoCount(1));
        }
        due("no other position", ELEMENT, answer(x, y -> y.echoAt(1, 1)));
    }

    /** "and at most as many echoes as its capacity" */
    private static void atMostCapacityEchoes() {
        for (int capacity = 1; capacity <= 6; capacity++) {
            for (char policy : "rol".toCharArray()) {
                EchoPantry x = made(TWELVE);
                x.addShelf(capacity, 30, policy);
                for (int i = 0; i < 12; i++) {
                    x.hear(0, (char) ('a' + i));
                    int many = Math.min(i + 1, capacity);
                    due("echoes of capacity " + capacity + policy, many, x.echoCount(0));
                    due("the earliest that stays", (char) ('a' + i + 1 - many), x.echoAt(0, 0));
                    due("the last", (char) ('a' + i), x.echoAt(0, many - 1));
                    due("one position more", ELEMENT, answer(x, y -> y.echoAt(0, many)));
                    due("the victim", (char) ('a' + i + 1 - many), x.victimOf(0));
                }
                x.warm(0, 'a', 1);
                x.pass(1);
                due("echoes after a warming", capacity, x.echoCount(0));
                due("consistent", true, x.isConsistent());
            }
        }
    }

    // ---- Terms: echoes -----------------------------------------------------------------------

    /** "An echo has the word of its jar at the time when it was fetched." */
    private static void theWordWhenFetched() {
        for (int word = 0; word <= 99; word += 33) {
            EchoPantry x = made(SHELVES);
            x.say('a', word);
            x.hear(0, 'a');
            x.say('a', 99 - word);
            due("the word when it was fetched", word, x.echoOf(0, 'a'));
            x.hear(0, 'a');
            due("the word when it was fetched again", 99 - word, x.echoOf(0, 'a'));
        }
    }

    /** "Its age is the number of minutes since then." */
    private static void theAge() {
        EchoPantry x = made(SHELVES);
        x.pass(60);
        x.hear(0, 'a');
        for (int age = 0; age < 100; age++) {
            due("age", age, x.ageOf(0, 'a'));
            x.pass(1);
        }
        x.hear(0, 'a');
        due("age of the new echo", 0, x.ageOf(0, 'a'));
        for (int i = 1; i <= 200; i++) {
            x.pass(60);
        }
        due("a great age", 12000, x.ageOf(0, 'a'));
        due("a great mean age", 12000.0, x.meanAge());
        due("a late minute", 12160, x.time());
    }

    /** "It is expired if its age is at least the lifetime of its shelf." */
    private static void expiredAtItsLifetime() {
        for (int lifetime = 1; lifetime <= 30; lifetime++) {
            EchoPantry x = made(EchoPantryBoundariesTest::threeJars);
            x.addShelf(1, lifetime, "rol".charAt(lifetime % 3));
            x.pass(7);
            x.hear(0, 'a');
            if (lifetime > 1) {
                x.pass(lifetime - 1);
            }
            due("one minute before its lifetime " + lifetime, false, x.isExpired(0, 'a'));
            due("a hit one minute before", 'h', x.outcomeOf(0, 'a'));
            due("its line before", "a10", line(x, 0));
            x.pass(1);
            due("at its lifetime " + lifetime, true, x.isExpired(0, 'a'));
            due("no hit", 'e', x.outcomeOf(0, 'a'));
            due("its line", "a10~", line(x, 0));
            x.pass(1);
            due("after its lifetime " + lifetime, true, x.isExpired(0, 'a'));
        }
    }

    /** "Its lid is closed at first." */
    private static void closedAtFirst() {
        EchoPantry x = made(SHELVES);
        x.say('a', 1);
        x.hear(0, 'a');
        due("a new echo", false, x.isOpen(0, 'a'));
        due("opened", 1, x.say('a', 2));
        due("an open echo", true, x.isOpen(0, 'a'));
        x.hear(0, 'a');
        due("an echo in the place of an open one", false, x.isOpen(0, 'a'));
        x.say('a', 3);
        x.warm(0, 'a', 1);
        x.pass(1);
        due("a warmed echo in the place of an open one", false, x.isOpen(0, 'a'));
    }

    /** "It is fresh if it is not expired and its lid is closed." */
    private static void freshEchoes() {
        Setup heard = then(SHELVES, x -> x.hear(0, 'a'));
        Setup open = then(heard, x -> x.say('a', 10));
        Setup old = then(heard, x -> x.pass(5));
        Setup both = then(old, x -> x.say('a', 10));
        accepts(heard, 'h', "not expired, closed", x -> x.outcomeOf(0, 'a'));
        accepts(open, 'o', "not expired, open", x -> x.outcomeOf(0, 'a'));
        accepts(old, 'e', "expired, closed", x -> x.outcomeOf(0, 'a'));
        accepts(both, 'e', "expired, open", x -> x.outcomeOf(0, 'a'));
        accepts(SHELVES, 'c', "no echo", x -> x.outcomeOf(0, 'a'));
        String[] dues = {"1 1 0 0", "0 1 0 1", "0 1 1 0", "0 1 1 0"};
        Setup[] setups = {heard, open, old, both};
        for (int i = 0; i < 4; i++) {
            EchoPantry x = made(setups[i]);
            x.hear(0, 'a');
            due("hits, cold, expired, open " + i, dues[i],
                    x.hits() + " " + x.misses('c') + " " + x.misses('e') + " " + x.misses('o'));
        }
    }

    private static void truth(String what, EchoPantry x, boolean want) {
        due(what, want, x.isTrue(0, 'a'));
        due(what + " by steps", want, x.isTrueBySteps(0, 'a'));
        due(what + ", consistent", true, x.isConsistent());
    }

    /** "An echo is true if its jar has not said anything since the echo was fetched." */
    private static void trueEchoes() {
        EchoPantry x = new EchoPantry();
        x.addShelf(1, 3, 'r');
        x.addJar('b', 1);
        x.addJar('a', 5);
        x.hear(0, 'a');
        truth("fetched in the step after the first word", x, true);
        x.say('b', 2);
        x.hear(0, 'a');
        x.pass(10);
        truth("expired, after a hit and another jar's word", x, true);
        x.setListening(0, false);
        x.say('a', 5);
        truth("the same word in the step after", x, false);
        due("though its lid is closed", false, x.isOpen(0, 'a'));
        due("though its word is the jar's", x.wordOf('a'), x.echoOf(0, 'a'));
        x.hear(0, 'a');
        truth("fetched in the step after a word", x, true);
        x.say('a', 6);
        due("a hit on an echo that is not true", 5, x.hear(0, 'a'));
        truth("after a hit, which fetches nothing", x, false);
        x.setListening(0, true);
        x.say('a', 5);
        x.hear(0, 'a');
        truth("fetched again", x, true);
        for (int i = 0; i < 256; i++) {
            x.say('a', i % 100);
        }
        truth("after 256 words", x, false);
    }

    /** "steps are numbered from 0 in their order, over all shelves and jars" */
    private static void stepsOverAllShelves() {
        EchoPantry x = new EchoPantry();
        x.addShelf(2, 9, 'r');
        x.addShelf(2, 9, 'r');
        x.addJar('a', 1);
        x.hear(0, 'a');
        truth("step 0 a word, step 1 a fetch", x, true);
        x.addJar('b', 1);
        x.hear(1, 'a');
        x.hear(1, 'b');
        x.hear(0, 'b');
        x.hear(1, 'a');
        due("shelf 0: a was heard first", 'a', x.victimOf(0));
        due("shelf 1: b was heard before a", 'b', x.victimOf(1));
    }

    // ---- Terms: hearing, fetching, saying ----------------------------------------------------

    /** "this is a hit: the word of the echo is heard, the echo counts one more hit" */
    private static void manyHits() {
        EchoPantry x = made(SHELVES);
        x.setListening(2, false);
        x.hear(2, 'a');
        x.say('a', 77);
        for (int hits = 0; hits <= 300; hits++) {
            if (hits % 50 == 0) {
                due("hits of the echo", hits, x.hitsOf(2, 'a'));
                due("hits in all", hits, x.hits());
                due("the shelf with the most hits", hits == 0 ? 0 : 2, x.shelfByHits(0));
            }
            due("the word of the echo", 10, x.hear(2, 'a'));
        }
        due("misses", 1, x.misses('c') + x.misses('e') + x.misses('o'));
        due("share", 301f / 302f, x.hitShare());
    }

    /** "an older echo of the same jar is removed from the shelf. If the shelf is full then, its victim is removed." */
    private static void aFullShelf() {
        for (char policy : "rol".toCharArray()) {
            EchoPantry x = made(EchoPantryBoundariesTest::threeJars);
            x.addShelf(2, 9, policy);
            x.hear(0, 'a');
            due("one place is free", 1, x.echoCount(0));
            x.hear(0, 'b');
            due("the last place", "a10 b20", line(x, 0));
            x.say('b', 21);
            x.hear(0, 'b');
            due("full, but its own older echo goes", "a10 b21", line(x, 0));
            x.say('a', 11);
            x.hear(0, 'a');
            due("full, and the victim is its own older echo", "a11 b21", line(x, 0));
            x.hear(0, 'c');
            due("full, and the victim goes", "a11 c30", line(x, 0));
            x.removeJar('c');
            x.hear(0, 'b');
            due("a place that is free again", "a11 b21", line(x, 0));
        }
    }

    /** "The new echo has no hits and counts as heard in the step of the fetch." */
    private static void theNewEcho() {
        EchoPantry x = made(SHELVES);
        x.hear(2, 'a');
        x.hear(2, 'a');
        x.hear(2, 'b');
        due("l: no hits against one", 'b', x.victimOf(2));
        x.say('a', 1);
        x.hear(2, 'a');
        due("l: no hits", 0, x.hitsOf(2, 'a'));
        due("l: no hits against none, fetched earlier", 'b', x.victimOf(2));
        x.hear(0, 'b');
        x.hear(0, 'a');
        due("r: b was heard first", 'b', x.victimOf(0));
        x.say('b', 1);
        x.hear(0, 'b');
        due("r: b was fetched again", 'a', x.victimOf(0));
    }

    private static void victim(String what, EchoPantry x, int shelf, char want) {
        due(what, want, x.victimOf(shelf));
        due(what + " by scan", want, x.victimByScan(shelf));
    }

    /** "for l it is the echo with the fewest hits, and of several, the one that was fetched in the earliest step" */
    private static void victims() {
        for (int shelf = 0; shelf < 3; shelf++) {
            EchoPantry x = made(EchoPantryBoundariesTest::threeJars);
            x.addShelf(3, 9, 'r');
            x.addShelf(3, 9, 'o');
            x.addShelf(3, 9, 'l');
            x.hear(shelf, 'c');
            victim("one echo", x, shelf, 'c');
            x.hear(shelf, 'a');
            x.hear(shelf, 'b');
            victim("three without hits", x, shelf, 'c');
            x.hear(shelf, 'c');
            victim("c has one hit", x, shelf, "aca".charAt(shelf));
            x.hear(shelf, 'a');
            victim("a has one hit too", x, shelf, "bcb".charAt(shelf));
            x.hear(shelf, 'b');
            victim("each has one hit", x, shelf, "ccc".charAt(shelf));
            x.hear(shelf, 'b');
            x.hear(shelf, 'a');
            victim("c has one, a and b have two", x, shelf, "ccc".charAt(shelf));
            x.hear(shelf, 'c');
            victim("each has two hits", x, shelf, "bcc".charAt(shelf));
            x.hear(shelf, 'c');
            victim("c has three, a and b have two", x, shelf, "bca".charAt(shelf));
            x.removeJar(x.victimOf(shelf));
            victim("without it", x, shelf, "aab".charAt(shelf));
        }
    }

    /** "also the same one again, the lids of its echoes on all shelves that listen are opened" */
    private static void sayingOpensLids() {
        for (int listening = 0; listening <= 4; listening++) {
            EchoPantry x = made(then(EchoPantryBoundariesTest::threeJars, FOUR));
            for (int shelf = 0; shelf < 4; shelf++) {
                x.hear(shelf, 'a');
                x.setListening(shelf, shelf < listening);
            }
            due("lids with the same word", listening, x.say('a', 10));
            due("lids that are open already", 0, x.say('a', 11));
            due("lids of a jar without echoes", 0, x.say('b', 11));
            for (int shelf = 0; shelf < 4; shelf++) {
                due("open on shelf " + shelf, shelf < listening, x.isOpen(shelf, 'a'));
                x.setListening(shelf, true);
            }
            due("lids of the others", 4 - listening, x.say('a', 11));
        }
    }

    // ---- Terms: warming ----------------------------------------------------------------------

    /** "There are at most 8 warmings" */
    private static void atMostEightWarmings() {
        EchoPantry x = made(SHELVES);
        for (int i = 0; i < 8; i++) {
            due("warmings", i, x.warmingCount());
            due("position of warming " + (i + 1), i, x.warm(0, 'a', 50));
        }
        due("eight", 8, x.warmingCount());
        refuses(EIGHT, STATE, "a ninth warming", y -> y.warm(0, 'a', 1));
        refuses(EIGHT, STATE, "a ninth warming for the last minute", y -> y.warm(2, 'c', 50));
        refuses(FULL, STATE, "a ninth warming of a full pantry", y -> y.warm(3, 'l', 50));
        accepts(then(EIGHT, y -> y.cancelWarming(7)), 0, "a warming after one is cancelled", y -> y.warm(0, 'a', 1));
        accepts(then(EIGHT, y -> y.pass(29)), 6, "a warming after two are carried out", y -> y.warm(0, 'a', 50));
        accepts(then(EIGHT, y -> y.pass(28)), STATE, "a warming before they are", y -> y.warm(0, 'a', 50));
        fails(EIGHT, "say a 1;warm 0 a 1", 1);
        Setup gone = then(EIGHT, y -> y.removeJar('b'));
        refuses(gone, STATE, "a ninth warming when a jar of one is gone", y -> y.warm(0, 'a', 1));
    }

    /** "ordered by their minutes, and warmings for the same minute are ordered as they were planned" */
    private static void orderOfWarmings() {
        EchoPantry x = made(SHELVES);
        x.pass(3);
        due("first", 0, x.warm(0, 'b', 5));
        due("a minute before", 0, x.warm(0, 'c', 4));
        due("the same minute", 2, x.warm(0, 'a', 5));
        due("a minute after", 3, x.warm(0, 'b', 6));
        x.pass(1);
        due("the same minute, planned later", 3, x.warm(0, 'c', 4));
        due("the earliest minute, planned later", 1, x.warm(1, 'a', 3));
        String order = "";
        for (int i = 0; i < x.warmingCount(); i++) {
            order += x.warmingJar(i) + "" + x.warmingMinute(i) + " ";
        }
        due("order", "c7 a7 b8 a8 c8 b9 ", order);
        x.pass(4);
        due("the last of the same minute came last", "a10 c30", line(x, 0));
        due("r: heard in the order of the warmings", 'a', x.victimOf(0));
    }

    /** "When a minute passes, the time increases by 1, and then all warmings for this minute are carried out" */
    private static void theMinuteOfAWarming() {
        for (int minutes = 1; minutes <= 50; minutes++) {
            EchoPantry x = made(SHELVES);
            x.pass(2);
            x.warm(0, 'a', minutes);
            due("its minute", 2 + minutes, x.warmingMinute(0));
            if (minutes > 1) {
                due("the minutes before", 0, x.pass(minutes - 1));
            }
            due("it waits", 1, x.warmingCount());
            due("no echo yet", false, x.hasEcho(0, 'a'));
            due("its minute passes", 1, x.pass(1));
            due("it is removed", 0, x.warmingCount());
            due("fetched after the time increased", 0, x.ageOf(0, 'a'));
            due("the minute after", 0, x.pass(1));
            due("an age of one minute", 1, x.ageOf(0, 'a'));
        }
    }

    /** "A warming is planned for a shelf, a jar and a minute." */
    private static void theShelfOfAWarming() {
        for (int shelf = 0; shelf < 4; shelf++) {
            EchoPantry x = made(then(EchoPantryBoundariesTest::threeJars, FOUR));
            x.warm(3 - shelf, 'b', 1);
            x.pass(1);
            x.removeJar('b');
            x.warm(shelf, 'a', 3);
            due("fetched", 1, x.pass(3));
            for (int other = 0; other < 4; other++) {
                due("fetched on shelf " + other, other == shelf, x.hasEcho(other, 'a'));
            }
            due("its jar", 'a', x.echoAt(shelf, 0));
            due("its word", 10, x.echoOf(shelf, 'a'));
        }
    }

    /** "the echo is fetched, or nothing happens if there is no such jar any more" */
    private static void aWarmingOfARemovedJar() {
        EchoPantry x = made(SHELVES);
        x.warm(0, 'a', 2);
        x.warm(0, 'b', 2);
        x.warm(1, 'a', 2);
        x.removeJar('a');
        due("warmings stay", 3, x.warmingCount());
        due("its letter stays", 'a', x.warmingJar(0));
        due("one of three is fetched", 1, x.pass(2));
        due("none is left", 0, x.warmingCount());
        due("no echo of it", false, x.hasEcho(0, 'a'));
        due("none on the other shelf", 0, x.echoCount(1));
        x.addJar('a', 1);
        due("they do not come back", 0, x.pass(60));
        x.warm(0, 'a', 1);
        x.removeJar('a');
        x.addJar('a', 44);
        due("a jar with its letter again", 1, x.pass(1));
        due("its word", 44, x.echoOf(0, 'a'));
    }

    /** "A warming counts neither as a hit nor as a miss. It fetches the echo also if the shelf has a fresh one." */
    private static void warmingIsNoHearing() {
        EchoPantry x = made(SHELVES);
        x.warm(0, 'a', 1);
        x.warm(0, 'a', 2);
        x.pass(1);
        due("nothing was heard", ARITHMETIC, answer(x, EchoPantry::hitShare));
        x.hear(0, 'a');
        due("a hit on it", "1 0 0 0", x.hits() + " " + x.misses('c') + " " + x.misses('e') + " " + x.misses('o'));
        due("a share of all", 1f, x.hitShare());
        due("a fresh echo is fetched", 1, x.pass(1));
        due("without hits", 0, x.hitsOf(0, 'a'));
        due("without age", 0, x.ageOf(0, 'a'));
        x.warm(0, 'a', 5);
        x.warm(0, 'a', 6);
        x.pass(5);
        due("an expired echo is fetched", 0, x.ageOf(0, 'a'));
        x.say('a', 1);
        x.pass(1);
        due("an open echo is fetched", false, x.isOpen(0, 'a'));
        due("the hit alone", "1 0 0 0", x.hits() + " " + x.misses('c') + " " + x.misses('e') + " " + x.misses('o'));
        due("hits at the shelf stay", 0, x.shelfByHits(0));
    }

    /** "When a jar is removed, no shelf keeps an echo of it" */
    private static void aRemovedJarHasNoEchoes() {
        for (int shelves = 0; shelves <= 4; shelves++) {
            EchoPantry x = made(then(EchoPantryBoundariesTest::threeJars, FOUR));
            for (int shelf = 0; shelf < shelves; shelf++) {
                x.hear(shelf, 'a');
                x.setListening(shelf, shelf != 1);
            }
            x.hear(3, 'b');
            due("echoes that are removed", shelves, x.removeJar('a'));
            x.addJar('a', 10);
            for (int shelf = 0; shelf < 4; shelf++) {
                due("no echo of a later jar", false, x.hasEcho(shelf, 'a'));
                due("it is cold", 'c', x.outcomeOf(shelf, 'a'));
            }
            due("echoes of another jar stay", true, x.hasEcho(3, 'b'));
            due("a jar without echoes", 0, x.removeJar('a'));
        }
    }

    // ---- Terms: text -------------------------------------------------------------------------

    /** "Characters are collected in a buffer of at most 60 characters." */
    private static void atMostSixtyCharacters() {
        EchoPantry x = new EchoPantry();
        for (int length = 1; length <= 60; length++) {
            due("character " + length, length, x.type('x'));
        }
        refuses(FULL, STATE, "a 61st character", y -> y.type('x'));
        refuses(FULL, STATE, "a 61st character that is the last", y -> y.type('~'));
        refuses(FULL, STATE, "a 61st character that is the first", y -> y.type(' '));
        String sixty = "pass 10;pass 10;pass 10;pass 10;pass 10;pass 1;pass 1;pass 1";
        due("sixty characters", 60, sixty.length());
        accepts(then(BARE, y -> type(y, sixty)), 8, "a text of 60 characters", EchoPantry::execute);
        accepts(then(BARE, y -> execute(y, sixty)), 58, "its 53 minutes", EchoPantry::time);
        accepts(then(BARE, y -> execute(y, sixty)), 1, "a character after it", y -> y.type('x'));
        accepts(then(FULL, y -> answer(y, EchoPantry::execute)), 1, "a character after a wrong text", y -> y.type('x'));
        malformed(BARE, "pass 10;".repeat(4) + "pass 1;".repeat(4), 60);
        malformed(BARE, sixty.substring(0, 58) + "x1", 58);
        malformed(BARE, sixty.substring(0, 59) + "x", 59);
        malformed(BARE, "x".repeat(60), 0);
    }

    private static void becomes(String text, Call call) {
        for (Setup setup : List.of(BARE, FEW, CROWDED)) {
            same("the text '" + text + "' against its method", then(setup, x -> answer(x, call)),
                    then(setup, x -> execute(x, text)));
        }
        accepts(then(BARE, x -> type(x, text)), 1, "the text '" + text + "'", EchoPantry::execute);
    }

    /** "The commands stand for addJar, say, removeJar, addShelf, hear, warm, setListening ... and pass" */
    private static void commandsAreCalls() {
        becomes("jar d 0", x -> x.addJar('d', 0));
        becomes("jar d 99", x -> x.addJar('d', 99));
        becomes("jar d 00", x -> x.addJar('d', 0));
        becomes("jar z 99", x -> x.addJar('z', 99));
        becomes("say a 0", x -> x.say('a', 0));
        becomes("say a 07", x -> x.say('a', 7));
        becomes("say c 99", x -> x.say('c', 99));
        becomes("say c 10", x -> x.say('c', 10));
        becomes("drop a", x -> x.removeJar('a'));
        becomes("drop c", x -> x.removeJar('c'));
        becomes("shelf 1 1 r", x -> x.addShelf(1, 1, 'r'));
        becomes("shelf 6 30 o", x -> x.addShelf(6, 30, 'o'));
        becomes("shelf 3 09 l", x -> x.addShelf(3, 9, 'l'));
        becomes("hear 0 a", x -> x.hear(0, 'a'));
        becomes("hear 1 c", x -> x.hear(1, 'c'));
        becomes("warm 0 a 1", x -> x.warm(0, 'a', 1));
        becomes("warm 1 c 50", x -> x.warm(1, 'c', 50));
        becomes("listen 0", x -> x.setListening(0, true));
        becomes("listen 1", x -> x.setListening(1, true));
        becomes("deaf 0", x -> x.setListening(0, false));
        becomes("deaf 1", x -> x.setListening(1, false));
        becomes("pass 1", x -> x.pass(1));
        becomes("pass 01", x -> x.pass(1));
        becomes("pass 60", x -> x.pass(60));
        accepts(then(BARE, x -> execute(x, "listen 2")), true, "a deaf shelf after listen", x -> x.isListening(2));
        accepts(then(BARE, x -> execute(x, "listen 1")), true, "a shelf after listen", x -> x.isListening(1));
        accepts(then(BARE, x -> execute(x, "deaf 1")), false, "a shelf after deaf", x -> x.isListening(1));
        accepts(then(BARE, x -> execute(x, "deaf 2")), false, "a deaf shelf after deaf", x -> x.isListening(2));
    }

    /** "letter is a letter from a to z" */
    private static void lettersInTexts() {
        for (char c = 'a'; c <= 'z'; c++) {
            char letter = c;
            Setup one = x -> x.addShelf(1, 9, 'r');
            String text = "jar X 1;say X 2;hear 0 X;warm 0 X 9;drop X".replace('X', letter);
            accepts(then(one, x -> type(x, text)), 5, text, EchoPantry::execute);
        }
        for (char wrongLetter : "`{AZ09 ;".toCharArray()) {
            malformed(BARE, "jar " + wrongLetter + " 1", 4);
            malformed(BARE, "say " + wrongLetter + " 1", 4);
            malformed(BARE, "drop " + wrongLetter, 5);
            malformed(BARE, "hear 0 " + wrongLetter, 7);
            malformed(BARE, "warm 0 " + wrongLetter + " 1", 7);
        }
    }

    /** "d is a blank and a decimal digit, and n is a blank and one or two decimal digits" */
    private static void digitsInTexts() {
        for (int digit = 0; digit <= 9; digit++) {
            String hearing = "hear " + digit + " a";
            String deafening = "deaf " + digit;
            if (digit < 3) {
                accepts(then(BARE, x -> type(x, hearing)), 1, hearing, EchoPantry::execute);
                accepts(then(BARE, x -> type(x, deafening)), 1, deafening, EchoPantry::execute);
            } else {
                fails(BARE, hearing, 0);
                fails(BARE, deafening, 0);
                fails(BARE, "listen " + digit, 0);
                fails(BARE, "warm " + digit + " a 1", 0);
            }
        }
        for (int number = 0; number <= 99; number++) {
            String text = "say a " + number;
            String two = "say a " + number / 10 + number % 10;
            accepts(then(BARE, x -> execute(x, text)), number, text, x -> x.wordOf('a'));
            accepts(then(BARE, x -> execute(x, two)), number, two, x -> x.wordOf('a'));
        }
        for (char noDigit : "/:a -+".toCharArray()) {
            malformed(BARE, "pass " + noDigit, 5);
            malformed(BARE, "pass 1" + noDigit, 6);
            malformed(BARE, "deaf " + noDigit, 5);
            malformed(BARE, "shelf 1 2" + noDigit, noDigit == ' ' ? 10 : 9);
        }
        malformed(BARE, "pass 100", 7);
        malformed(BARE, "pass 001", 7);
        malformed(BARE, "deaf 00", 6);
        malformed(BARE, "hear 00 a", 6);
        malformed(BARE, "warm 0 a 100", 11);
        malformed(BARE, "shelf 1 100 r", 10);
    }

    private static final String[] TEXTS = {
        "jar d 12", "say a 34", "drop a", "shelf 1 23 r", "shelf 2 3 o", "shelf 3 30 l", "hear 0 a", "warm 0 a 12",
        "listen 0", "deaf 1", "pass 12", "pass 1;hear 0 a;drop b"
    };

    private static final String COMMAND = "(jar [a-z] [0-9][0-9]?|say [a-z] [0-9][0-9]?|drop [a-z]"
            + "|shelf [0-9] [0-9][0-9]? [rol]|hear [0-9] [a-z]|warm [0-9] [a-z] [0-9][0-9]?"
            + "|listen [0-9]|deaf [0-9]|pass [0-9][0-9]?)";

    private static final java.util.regex.Pattern TEXT =
            java.util.regex.Pattern.compile(COMMAND + "(;" + COMMAND + ")*");

    private static boolean canContinue(String start) {
        java.util.regex.Matcher matcher = TEXT.matcher(start);
        return matcher.matches() || matcher.hitEnd();
    }

    /** "the index of its first character that cannot continue any valid text" */
    private static void firstWrongCharacter() {
        for (String text : TEXTS) {
            for (int i = 0; i <= text.length(); i++) {
                String start = text.substring(0, i);
                for (char c = 32; c <= 126; c++) {
                    String tried = start + c;
                    if (!canContinue(tried)) {
                        EchoPantry x = new EchoPantry();
                        due("the text '" + tried + "'", ARGUMENT, execute(x, tried));
                        due("position in '" + tried + "'", i, x.errorPosition());
                    }
                }
                if (i < text.length()) {
                    malformed(BARE, start + "#" + text.substring(i + 1), i);
                }
            }
            malformed(BARE, text + ";;" + text, text.length() + 1);
            malformed(BARE, text + "; " + text, text.length() + 1);
            malformed(BARE, text + " ;" + text, text.length());
            malformed(BARE, text + "~", text.length());
            malformed(BARE, " " + text, 0);
            malformed(BARE, ";" + text, 0);
            malformed(BARE, text.toUpperCase(), 0);
        }
    }

    /** "or its length if it ends too early" */
    private static void endsTooEarly() {
        for (String text : TEXTS) {
            for (int i = 0; i < text.length(); i++) {
                String start = text.substring(0, i);
                if (!TEXT.matcher(start).matches()) {
                    malformed(BARE, start, i);
                }
            }
            malformed(BARE, text + ";", text.length() + 1);
        }
        malformed(EMPTY, "", 0);
        malformed(CROWDED, "", 0);
    }

    /** "The commands are executed in order, all of them or none" */
    private static void allOrNone() {
        for (int commands = 1; commands <= 8; commands++) {
            String text = "pass 1;".repeat(commands - 1) + "pass 1";
            accepts(then(BARE, x -> type(x, text)), commands, text, EchoPantry::execute);
            accepts(then(BARE, x -> execute(x, text)), 5 + commands, text + " takes minutes", EchoPantry::time);
            fails(BARE, text.substring(0, text.length() - 1) + "0", commands - 1);
            fails(FEW, text.substring(0, text.length() - 1) + "0", commands - 1);
            fails(BARE, "pass 1;".repeat(commands - 1) + "pass 0;pass 1".substring(0, commands < 8 ? 13 : 6),
                    commands - 1);
        }
        for (String text : TEXTS) {
            for (Setup setup : List.of(BARE, FEW)) {
                fails(setup, text + ";pass 0", text.length() - text.replace(";", "").length() + 1);
            }
        }
        fails(CROWDED, "say a 1;drop b;hear 0 a;pass 60;deaf 1;jar z 1;pass 61", 6);
        accepts(then(BARE, x -> type(x, "drop a;jar a 1;hear 0 a")), 3, "in order", EchoPantry::execute);
        fails(BARE, "jar a 1;drop a;hear 0 a", 0);
    }

    /** "A command fails if the method for it would throw an exception." */
    private static void failingCommands() {
        String[] texts = {
            "jar a 1", "say d 1", "drop d", "shelf 0 1 r", "shelf 7 1 r", "shelf 9 1 r", "shelf 1 0 r", "shelf 1 31 r",
            "shelf 1 99 r", "hear 3 a", "hear 9 a", "hear 0 d", "warm 3 a 1", "warm 0 d 1", "warm 0 a 0",
            "warm 0 a 51", "warm 0 a 99", "listen 3", "deaf 3", "pass 0", "pass 61", "pass 99"
        };
        for (String text : texts) {
            fails(BARE, text, 0);
            fails(BARE, "pass 1;say a 5;" + text + ";drop a", 2);
        }
        fails(CROWDED, "jar m 1", 0);
        fails(CROWDED, "shelf 1 1 r", 0);
        fails(CROWDED, "warm 0 a 1", 0);
        fails(CROWDED, "say a 1;warm 0 a 1", 1);
        fails(EMPTY, "hear 0 a", 0);
        fails(EMPTY, "jar a 1;listen 0", 1);
    }

    /** "Executes the text in the buffer, which is empty afterwards." */
    private static void theBufferIsEmptyAfterwards() {
        for (String text : new String[] {"pass 1", "pass 0", "pass", "", "x"}) {
            EchoPantry x = made(BARE);
            execute(x, text);
            due("a character after '" + text + "'", 1, x.type('p'));
            type(x, "ass ");
            due("no old character after '" + text + "'", 6, x.type('2'));
            due("another text after '" + text + "'", 1, x.execute());
            due("nothing is left", ARGUMENT, answer(x, EchoPantry::execute));
            due("an empty text", 0, x.errorPosition());
        }
    }

    // ---- Terms: undo and snapshots -----------------------------------------------------------

    private static final Map<String, Call> MODIFICATIONS = new LinkedHashMap<>();

    static {
        MODIFICATIONS.put("addJar", x -> x.addJar('d', 40));
        MODIFICATIONS.put("removeJar", x -> x.removeJar('a'));
        MODIFICATIONS.put("say", x -> x.say('a', 55));
        MODIFICATIONS.put("say the same", x -> x.say('b', x.wordOf('b')));
        MODIFICATIONS.put("addShelf", x -> x.addShelf(3, 3, 'o'));
        MODIFICATIONS.put("setListening false", x -> x.setListening(0, false));
        MODIFICATIONS.put("setListening true", x -> x.setListening(0, true));
        MODIFICATIONS.put("hear", x -> x.hear(0, 'b'));
        MODIFICATIONS.put("hear cold", x -> x.hear(1, 'c'));
        MODIFICATIONS.put("hear open", x -> x.hear(1, 'a'));
        MODIFICATIONS.put("hear expired", x -> execute(x, "pass 9;hear 0 a"));
        MODIFICATIONS.put("warm", x -> x.warm(0, 'b', 2));
        MODIFICATIONS.put("cancelWarming", x -> x.cancelWarming(0));
        MODIFICATIONS.put("pass", x -> x.pass(5));
        MODIFICATIONS.put("execute", x -> execute(x, "jar e 1;pass 2;say a 3;drop b"));
        MODIFICATIONS.put("execute what changes nothing", x -> execute(x, "listen 0"));
    }

    /** "The last 8 successful modifications can be undone." "Throws IllegalStateException if there is none" */
    private static void theLastEightCanBeUndone() {
        for (int count = 0; count <= 30; count++) {
            EchoPantry x = new EchoPantry();
            for (int i = 0; i < count; i++) {
                x.pass(1);
            }
            int last = Math.min(count, 8);
            for (int left = last - 1; left >= 0; left--) {
                due("undo after " + count, left, x.undo());
                due("time then", count - last + left, x.time());
            }
            due("undo after the last", STATE, answer(x, EchoPantry::undo));
            due("time stays", count - last, x.time());
            x.pass(1);
            due("undo of one more", 0, x.undo());
        }
        refuses(EMPTY, STATE, "nothing to undo", EchoPantry::undo);
        Setup used = then(BUSY, x -> {
            for (int i = 0; i < 8; i++) {
                x.undo();
            }
        });
        refuses(used, STATE, "nothing to undo any more", EchoPantry::undo);
        refuses(then(BUSY, EchoPantry::restore), STATE, "nothing to undo after restore", EchoPantry::undo);
    }

    /** "Returns the number of modifications that can still be undone." */
    private static void undoAndGoOn() {
        EchoPantry x = new EchoPantry();
        for (int i = 0; i < 10; i++) {
            x.pass(1);
        }
        due("of eight, seven", 7, x.undo());
        due("six", 6, x.undo());
        x.pass(10);
        due("six again", 6, x.undo());
        for (int i = 0; i < 3; i++) {
            x.pass(20);
        }
        due("eight again", 7, x.undo());
        due("48 minutes", 48, x.time());
        for (int left = 6; left >= 0; left--) {
            due("and down", left, x.undo());
        }
        due("the modifications before stay", 3, x.time());
        due("none", STATE, answer(x, EchoPantry::undo));
    }

    /** "The modifications are the successful calls of addJar, removeJar, say, ..., pass and execute." */
    private static void eachModificationCanBeUndone() {
        for (Map.Entry<String, Call> modification : MODIFICATIONS.entrySet()) {
            String what = "undo of " + modification.getKey();
            Setup done = y -> due(modification.getKey() + " is taken", false,
                    answer(y, modification.getValue()) instanceof Class);
            same(what, FEW, then(then(FEW, done), EchoPantry::undo));
            accepts(then(FEW, done), 4, what, EchoPantry::undo);
            EchoPantry x = made(then(FEW, done));
            boolean isTakenAgain = !(answer(x, modification.getValue()) instanceof Class);
            due(what + " after it was called twice", isTakenAgain ? 5 : 4, x.undo());
            accepts(then(BARE, done), 7, what + " of more than 8", EchoPantry::undo);
        }
    }

    /** What is no modification: nothing more can be undone after it. */
    private static void whatIsNoModification() {
        Map<String, Call> others = readings();
        others.put("writeShelf", x -> x.writeShelf(1));
        others.put("type", x -> x.type('p'));
        others.put("save", EchoPantry::save);
        others.put("a text that is malformed", x -> execute(x, "pass"));
        others.put("a text that fails", x -> execute(x, "pass 1;pass 0"));
        for (Map.Entry<String, Call> other : others.entrySet()) {
            Setup called = x -> answer(x, other.getValue());
            due(other.getKey() + " is no modification", told(made(FEW), PROBES.get("what can be undone")),
                    told(made(then(FEW, called)), PROBES.get("what can be undone")));
        }
    }

    private static Map<String, Call> readings() {
        Map<String, Call> calls = new LinkedHashMap<>();
        calls.put("jarCount", EchoPantry::jarCount);
        calls.put("jarAt", x -> x.jarAt(0));
        calls.put("wordOf", x -> x.wordOf('a'));
        calls.put("shelfCount", EchoPantry::shelfCount);
        calls.put("capacityOf", x -> x.capacityOf(0));
        calls.put("lifetimeOf", x -> x.lifetimeOf(0));
        calls.put("policyOf", x -> x.policyOf(0));
        calls.put("isListening", x -> x.isListening(0));
        calls.put("echoCount", x -> x.echoCount(0));
        calls.put("echoAt", x -> x.echoAt(0, 0));
        calls.put("hasEcho", x -> x.hasEcho(0, 'a'));
        calls.put("echoOf", x -> x.echoOf(0, 'b'));
        calls.put("ageOf", x -> x.ageOf(0, 'b'));
        calls.put("hitsOf", x -> x.hitsOf(0, 'b'));
        calls.put("isExpired", x -> x.isExpired(0, 'b'));
        calls.put("isOpen", x -> x.isOpen(0, 'b'));
        calls.put("isTrue", x -> x.isTrue(0, 'b'));
        calls.put("isTrueBySteps", x -> x.isTrueBySteps(0, 'b'));
        calls.put("victimOf", x -> x.victimOf(0));
        calls.put("victimByScan", x -> x.victimByScan(0));
        calls.put("outcomeOf", x -> x.outcomeOf(0, 'a'));
        calls.put("time", EchoPantry::time);
        calls.put("warmingCount", EchoPantry::warmingCount);
        calls.put("warmingMinute", x -> x.warmingMinute(0));
        calls.put("warmingJar", x -> x.warmingJar(0));
        calls.put("hits", EchoPantry::hits);
        calls.put("misses", x -> x.misses('c'));
        calls.put("hitShare", EchoPantry::hitShare);
        calls.put("meanAge", EchoPantry::meanAge);
        calls.put("shelfByHits", x -> x.shelfByHits(0));
        calls.put("isConsistent", EchoPantry::isConsistent);
        return calls;
    }

    /** What only answers changes nothing. */
    private static void readingsChangeNothing() {
        for (Map.Entry<String, Call> reading : readings().entrySet()) {
            for (Setup setup : List.of(FEW, BUSY)) {
                same(reading.getKey(), setup, then(setup, x -> due(reading.getKey() + " answers", false,
                        answer(x, reading.getValue()) instanceof Class)));
            }
        }
        same("lineAt", BUSY, then(BUSY, x -> x.lineAt(0)));
        same("errorPosition", BUSY, then(BUSY, EchoPantry::errorPosition));
        same("failedCommand", BUSY, then(BUSY, EchoPantry::failedCommand));
    }

    /** "The text buffer, the error position, the index of the failed command and the line are not part of the state" */
    private static void whatIsNotUndone() {
        Map<String, Setup> calls = new LinkedHashMap<>();
        calls.put("undo", EchoPantry::undo);
        calls.put("save", EchoPantry::save);
        calls.put("restore", EchoPantry::restore);
        for (Map.Entry<String, Setup> call : calls.entrySet()) {
            String what = " after " + call.getKey();
            Setup called = then(BUSY, call.getValue());
            accepts(called, 7, "the length of the buffer" + what, x -> x.type('1'));
            accepts(called, 1, "the text in the buffer" + what, EchoPantry::execute);
            accepts(called, 5, "the error position" + what, EchoPantry::errorPosition);
            accepts(called, 1, "the failed command" + what, EchoPantry::failedCommand);
            String before = lineNow(made(BUSY));
            due("there is a line", true, before.length() > 2);
            due("the line" + what, before, lineNow(made(called)));
        }
        Setup blank = then(FEW, EchoPantry::save);
        Setup later = then(blank, x -> {
            execute(x, "pass 0");
            execute(x, "pa");
            x.writeShelf(0);
            x.type('p');
            x.restore();
        });
        accepts(later, 2, "an error position since the snapshot", EchoPantry::errorPosition);
        accepts(later, 0, "a failed command since the snapshot", EchoPantry::failedCommand);
        accepts(later, 2, "a character since the snapshot", x -> x.type('a'));
        accepts(later, 'a', "a line since the snapshot", x -> x.lineAt(0));
    }

    private static String lineNow(EchoPantry x) {
        StringBuilder line = new StringBuilder();
        for (int i = 0; i < 60; i++) {
            int index = i;
            Object character = answer(x, y -> y.lineAt(index));
            if (character == INDEX) {
                break;
            }
            line.append(character);
        }
        return line.toString();
    }

    /** "Saves the state as a snapshot, which replaces an earlier snapshot." */
    private static void snapshotsAreReplaced() {
        accepts(EMPTY, 0, "save of an empty pantry", EchoPantry::save);
        accepts(TWELVE, 12, "save of 12 jars", EchoPantry::save);
        for (Map.Entry<String, Call> modification : MODIFICATIONS.entrySet()) {
            Setup change = x -> answer(x, modification.getValue());
            Setup saved = then(then(FEW, change), EchoPantry::save);
            Setup twice = then(then(then(FEW, EchoPantry::save), change), EchoPantry::save);
            same("a snapshot after " + modification.getKey() + " replaces another", saved, twice);
        }
    }

    /** "Restores the snapshot, which is kept. Afterwards nothing can be undone." */
    private static void snapshotsAreKept() {
        Setup saved = then(FEW, EchoPantry::save);
        Setup restored = then(saved, EchoPantry::restore);
        for (Map.Entry<String, Call> modification : MODIFICATIONS.entrySet()) {
            String what = "a snapshot before " + modification.getKey();
            Setup change = x -> answer(x, modification.getValue());
            same(what, restored, then(then(saved, change), EchoPantry::restore));
            same(what + " and undo", saved, then(then(saved, change), EchoPantry::undo));
            same(what + " again", restored, then(then(restored, change), EchoPantry::restore));
            same(what + " after restore, and undo", restored, then(then(restored, change), EchoPantry::undo));
            accepts(then(restored, change), 0, "one undo after restore", EchoPantry::undo);
        }
        Setup another = x -> {
            x.addShelf(2, 5, 'r');
            x.save();
            x.undo();
            x.addShelf(6, 30, 'l');
            x.restore();
        };
        same("a snapshot of a shelf before another", x -> {
            x.addShelf(2, 5, 'r');
            x.save();
            x.restore();
        }, another);
        accepts(then(saved, x -> x.removeJar('a')), 3, "jars of the snapshot", EchoPantry::restore);
        accepts(then(then(EMPTY, EchoPantry::save), BUSY), 3, "a later snapshot", EchoPantry::restore);
        accepts(then(then(EMPTY, EchoPantry::save), TWELVE), 0, "an empty snapshot", EchoPantry::restore);
        accepts(then(then(TWELVE, EchoPantry::save), x -> x.removeJar('a')), 12, "a full one", EchoPantry::restore);
        refuses(restored, STATE, "undo after restore", EchoPantry::undo);
    }

    private static String heard(EchoPantry x) {
        return x.hits() + " " + x.misses('c') + " " + x.misses('e') + " " + x.misses('o');
    }

    /** The hits and misses are part of the state that is undone, saved and restored. */
    private static void hearingsAreRestored() {
        EchoPantry x = made(SHELVES);
        for (int i = 0; i < 4; i++) {
            x.hear(i % 3, 'a');
            x.hear(i % 3, 'a');
        }
        x.say('a', 1);
        x.hear(0, 'a');
        x.pass(5);
        x.hear(0, 'a');
        x.hear(1, 'a');
        due("heard", "5 3 2 1", heard(x));
        x.save();
        x.hear(0, 'a');
        due("a hit", "6 3 2 1", heard(x));
        x.undo();
        due("a hit undone", "5 3 2 1", heard(x));
        x.hear(0, 'b');
        due("a cold miss", "5 4 2 1", heard(x));
        x.undo();
        due("a cold miss undone", "5 3 2 1", heard(x));
        x.say('a', 2);
        x.hear(0, 'a');
        due("an open lid", "5 3 2 2", heard(x));
        x.undo();
        due("an open lid undone", "5 3 2 1", heard(x));
        x.pass(9);
        x.hear(0, 'a');
        due("an expired echo", "5 3 3 1", heard(x));
        x.undo();
        due("an expired echo undone", "5 3 2 1", heard(x));
        x.hear(2, 'a');
        x.hear(2, 'a');
        x.hear(2, 'b');
        due("more", "6 4 3 1", heard(x));
        x.restore();
        due("restored", "5 3 2 1", heard(x));
        due("the share", 5f / 11f, x.hitShare());
    }

    /** "Throws IllegalStateException if there is no snapshot" */
    private static void noSnapshot() {
        refuses(EMPTY, STATE, "restore without a snapshot", EchoPantry::restore);
        refuses(FEW, STATE, "restore without a snapshot, with modifications", EchoPantry::restore);
        refuses(TWELVE, STATE, "restore without a snapshot, with jars", EchoPantry::restore);
        accepts(then(EMPTY, EchoPantry::save), 0, "restore of an empty snapshot", EchoPantry::restore);
        accepts(then(FEW, x -> {
            x.undo();
            x.save();
            x.undo();
        }), 3, "undo leaves a snapshot", EchoPantry::restore);
    }

    // ---- Promises: shelves, letters and positions that are not there -------------------------

    private static Map<String, NumberCall> callsWithAShelf(char letter) {
        Map<String, NumberCall> calls = new LinkedHashMap<>();
        calls.put("setListening", (x, shelf) -> x.setListening(shelf, false));
        calls.put("setListening to true", (x, shelf) -> x.setListening(shelf, true));
        calls.put("capacityOf", EchoPantry::capacityOf);
        calls.put("lifetimeOf", EchoPantry::lifetimeOf);
        calls.put("policyOf", EchoPantry::policyOf);
        calls.put("isListening", EchoPantry::isListening);
        calls.put("echoCount", EchoPantry::echoCount);
        calls.put("echoAt", (x, shelf) -> x.echoAt(shelf, 0));
        calls.put("hasEcho", (x, shelf) -> x.hasEcho(shelf, letter));
        for (Map.Entry<String, EchoCall> call : callsWithAnEcho().entrySet()) {
            calls.put(call.getKey(), (x, shelf) -> call.getValue().on(x, shelf, letter));
        }
        calls.put("victimOf", EchoPantry::victimOf);
        calls.put("victimByScan", EchoPantry::victimByScan);
        calls.put("hear", (x, shelf) -> x.hear(shelf, letter));
        calls.put("outcomeOf", (x, shelf) -> x.outcomeOf(shelf, letter));
        calls.put("warm", (x, shelf) -> x.warm(shelf, letter, 1));
        calls.put("writeShelf", EchoPantry::writeShelf);
        return calls;
    }

    private interface EchoCall {
        Object on(EchoPantry x, int shelf, char letter);
    }

    private static Map<String, EchoCall> callsWithAnEcho() {
        Map<String, EchoCall> calls = new LinkedHashMap<>();
        calls.put("echoOf", EchoPantry::echoOf);
        calls.put("ageOf", EchoPantry::ageOf);
        calls.put("hitsOf", EchoPantry::hitsOf);
        calls.put("isExpired", EchoPantry::isExpired);
        calls.put("isOpen", EchoPantry::isOpen);
        calls.put("isTrue", EchoPantry::isTrue);
        calls.put("isTrueBySteps", EchoPantry::isTrueBySteps);
        return calls;
    }

    /** "Throws IndexOutOfBoundsException if there is no such shelf" */
    private static void noSuchShelf() {
        Setup[] setups = {EMPTY, FEW, BUSY, FULL};
        int[] shelves = {0, 2, 3, 4};
        for (Map.Entry<String, NumberCall> call : callsWithAShelf('a').entrySet()) {
            for (int i = 0; i < setups.length; i++) {
                for (int shelf : new int[] {-1, shelves[i], shelves[i] + 1, 256, 65536, LEAST, GREATEST}) {
                    refuses(setups[i], INDEX, call.getKey() + " of shelf " + shelf + " of " + shelves[i],
                            x -> call.getValue().on(x, shelf));
                }
            }
        }
    }

    /** The other side: what is there from the first shelf to the last one. */
    private static void eachShelf() {
        for (int shelf = 0; shelf < 4; shelf++) {
            int there = shelf;
            Setup heard = then(then(TWELVE, FOUR), x -> x.hear(there, 'b'));
            for (Map.Entry<String, NumberCall> call : callsWithAShelf('b').entrySet()) {
                Object got = answer(made(heard), x -> call.getValue().on(x, there));
                due(call.getKey() + " of shelf " + shelf + " is taken", false, got instanceof Class);
            }
        }
    }

    private static final char[] NO_LETTERS = {'`', '{', '@', 'A', ' ', 0, (char) ('a' + 256), (char) 65535};

    /** "Throws NoSuchElementException if there is no such jar" */
    private static void noSuchJar() {
        Map<String, EchoCall> calls = new LinkedHashMap<>();
        calls.put("removeJar", (x, shelf, letter) -> x.removeJar(letter));
        calls.put("say", (x, shelf, letter) -> x.say(letter, 1));
        calls.put("wordOf", (x, shelf, letter) -> x.wordOf(letter));
        calls.put("hear", EchoPantry::hear);
        calls.put("outcomeOf", EchoPantry::outcomeOf);
        calls.put("warm", (x, shelf, letter) -> x.warm(shelf, letter, 1));
        for (Map.Entry<String, EchoCall> call : calls.entrySet()) {
            for (char letter : NO_LETTERS) {
                refuses(BUSY, ELEMENT, call.getKey() + " of letter " + (int) letter,
                        x -> call.getValue().on(x, 0, letter));
            }
            for (char letter : "dyz".toCharArray()) {
                refuses(BUSY, ELEMENT, call.getKey() + " of " + letter, x -> call.getValue().on(x, 0, letter));
            }
            refuses(then(BUSY, x -> x.removeJar('a')), ELEMENT, call.getKey() + " of a removed jar",
                    x -> call.getValue().on(x, 0, 'a'));
            refuses(then(EMPTY, x -> x.addShelf(1, 1, 'r')), ELEMENT, call.getKey() + " without jars",
                    x -> call.getValue().on(x, 0, 'a'));
            for (char letter : "az".toCharArray()) {
                Setup one = x -> {
                    x.addShelf(1, 1, 'r');
                    x.addJar(letter, 1);
                };
                due(call.getKey() + " of " + letter + " is taken", false,
                        answer(made(one), x -> call.getValue().on(x, 0, letter)) instanceof Class);
                refuses(one, ELEMENT, call.getKey() + " of another",
                        x -> call.getValue().on(x, 0, letter == 'a' ? 'b' : 'y'));
            }
        }
    }

    /** "Throws NoSuchElementException if there is no echo of this jar on the shelf" */
    private static void noSuchEcho() {
        Setup heard = then(BUSY, x -> x.hear(1, 'a'));
        for (Map.Entry<String, EchoCall> call : callsWithAnEcho().entrySet()) {
            EchoCall of = call.getValue();
            String what = call.getKey();
            due(what + " of an echo", false, answer(made(heard), x -> of.on(x, 1, 'a')) instanceof Class);
            refuses(heard, ELEMENT, what + " of a jar without an echo", x -> of.on(x, 1, 'c'));
            refuses(heard, ELEMENT, what + " of no jar", x -> of.on(x, 1, 'd'));
            for (char letter : NO_LETTERS) {
                refuses(heard, ELEMENT, what + " of letter " + (int) letter, x -> of.on(x, 1, letter));
            }
            refuses(then(heard, x -> x.removeJar('a')), ELEMENT, what + " of a removed jar", x -> of.on(x, 1, 'a'));
            refuses(then(heard, x -> {
                x.removeJar('a');
                x.addJar('a', 1);
            }), ELEMENT, what + " of a jar added again", x -> of.on(x, 1, 'a'));
            refuses(SHELVES, ELEMENT, what + " on a shelf without echoes", x -> of.on(x, 0, 'a'));
            Setup evicted = then(SHELVES, x -> {
                x.hear(0, 'a');
                x.hear(0, 'b');
                x.hear(0, 'c');
            });
            refuses(evicted, ELEMENT, what + " of an evicted echo", x -> of.on(x, 0, 'a'));
            due(what + " of the last echo", false, answer(made(evicted), x -> of.on(x, 0, 'c')) instanceof Class);
        }
    }

    /** hasEcho: "letter: any character" */
    private static void anyCharacter() {
        EchoPantry x = made(SHELVES);
        x.hear(0, 'a');
        for (int code = 0; code < 300; code++) {
            due("an echo of " + code, code == 'a', x.hasEcho(0, (char) code));
        }
        due("an echo of 65535", false, x.hasEcho(0, (char) 65535));
        due("an echo of a letter's code with a high byte", false, x.hasEcho(0, (char) ('a' + 256)));
    }

    private static void positions(Setup setup, int count, Class<?> want, String what, NumberCall call) {
        for (int position = 0; position < count; position++) {
            int taken = position;
            due(what + " " + position + " of " + count + " is taken", false,
                    answer(made(setup), x -> call.on(x, taken)) instanceof Class);
        }
        for (int position : new int[] {-1, count, count + 1, count + 256, LEAST, GREATEST}) {
            refuses(setup, want, what + " " + position + " of " + count, x -> call.on(x, position));
        }
    }

    /** jarAt: "Throws IndexOutOfBoundsException if there is no such position" */
    private static void positionsOfJars() {
        positions(EMPTY, 0, INDEX, "jarAt", EchoPantry::jarAt);
        positions(BUSY, 3, INDEX, "jarAt", EchoPantry::jarAt);
        positions(then(BUSY, x -> x.removeJar('c')), 2, INDEX, "jarAt", EchoPantry::jarAt);
        positions(FULL, 12, INDEX, "jarAt", EchoPantry::jarAt);
        EchoPantry x = new EchoPantry();
        for (char letter = 'z'; letter > 'n'; letter--) {
            x.addJar(letter, 1);
            due("the first jar", letter, x.jarAt(0));
            due("the last jar", 'z', x.jarAt(x.jarCount() - 1));
        }
    }

    /** echoAt: "Throws NoSuchElementException if there is no such position" */
    private static void positionsOfEchoes() {
        Setup six = then(TWELVE, x -> {
            x.addShelf(6, 30, 'r');
            x.addShelf(6, 30, 'r');
            for (char letter = 'l'; letter >= 'a'; letter--) {
                x.hear(0, letter);
            }
        });
        positions(six, 6, ELEMENT, "echoAt", (x, position) -> x.echoAt(0, position));
        positions(six, 0, ELEMENT, "echoAt", (x, position) -> x.echoAt(1, position));
        positions(then(six, x -> x.removeJar('a')), 5, ELEMENT, "echoAt", (x, position) -> x.echoAt(0, position));
        positions(BUSY, 2, ELEMENT, "echoAt", (x, position) -> x.echoAt(0, position));
        for (int position = 0; position < 6; position++) {
            int taken = position;
            accepts(six, (char) ('a' + position), "echoAt", x -> x.echoAt(0, taken));
        }
    }

    /** cancelWarming, warmingMinute, warmingJar: "if there is no such position" */
    private static void positionsOfWarmings() {
        Map<String, NumberCall> calls = new LinkedHashMap<>();
        calls.put("cancelWarming", EchoPantry::cancelWarming);
        calls.put("warmingMinute", EchoPantry::warmingMinute);
        calls.put("warmingJar", EchoPantry::warmingJar);
        for (Map.Entry<String, NumberCall> call : calls.entrySet()) {
            positions(EMPTY, 0, INDEX, call.getKey(), call.getValue());
            positions(SHELVES, 0, INDEX, call.getKey(), call.getValue());
            positions(FEW, 2, INDEX, call.getKey(), call.getValue());
            positions(EIGHT, 8, INDEX, call.getKey(), call.getValue());
            positions(FULL, 8, INDEX, call.getKey(), call.getValue());
            positions(then(EIGHT, x -> x.pass(29)), 6, INDEX, call.getKey(), call.getValue());
            positions(then(EIGHT, x -> x.pass(50)), 0, INDEX, call.getKey(), call.getValue());
        }
    }

    /** cancelWarming: "Returns the number of warmings that are left." */
    private static void cancellingAllWarmings() {
        for (int first = 0; first < 8; first++) {
            EchoPantry x = made(EIGHT);
            StringBuilder order = new StringBuilder();
            for (int i = 0; i < 8; i++) {
                if (i != first) {
                    order.append(x.warmingJar(i)).append(x.warmingMinute(i)).append(' ');
                }
            }
            due("left after " + first, 7, x.cancelWarming(first));
            StringBuilder left = new StringBuilder();
            for (int i = 0; i < 7; i++) {
                left.append(x.warmingJar(i)).append(x.warmingMinute(i)).append(' ');
            }
            due("order after " + first, order.toString(), left.toString());
            for (int count = 6; count >= 0; count--) {
                due("left", count, x.cancelWarming(count));
            }
            due("nothing is fetched", 0, x.pass(60));
        }
    }

    // ---- Promises: ranges --------------------------------------------------------------------

    /** warm: "in how many minutes it is carried out, 1 to 50" */
    private static void minutesOfAWarming() {
        range(BUSY, 1, 50, ARGUMENT, "warm in minutes", (x, minutes) -> x.warm(0, 'a', minutes));
        accepts(then(SHELVES, x -> x.pass(60)), 0, "late", x -> x.warm(0, 'a', 50));
        accepts(then(SHELVES, x -> {
            x.pass(60);
            x.warm(0, 'a', 50);
        }), 110, "its minute", x -> x.warmingMinute(0));
    }

    /** pass: "the number of minutes, 1 to 60" */
    private static void minutesThatPass() {
        range(BUSY, 1, 60, ARGUMENT, "pass", EchoPantry::pass);
        for (int minutes = 1; minutes <= 60; minutes++) {
            int passed = minutes;
            accepts(then(BUSY, x -> x.pass(passed)), 5 + minutes, "time", EchoPantry::time);
        }
    }

    /** pass: "Returns the number of echoes that are fetched by warmings." */
    private static void echoesOfAllWarmings() {
        for (int minutes = 1; minutes <= 60; minutes++) {
            int due = 0;
            for (int minute : new int[] {50, 43, 36, 29}) {
                due += minutes >= minute ? 2 : 0;
            }
            int passed = minutes;
            accepts(EIGHT, due, "fetched in " + minutes, x -> x.pass(passed));
            accepts(then(EIGHT, x -> x.pass(passed)), 8 - due, "left after " + minutes, EchoPantry::warmingCount);
        }
        accepts(then(EIGHT, x -> x.pass(60)), 10, "its age after it was fetched on the way", x -> x.ageOf(0, 'a'));
        accepts(then(EIGHT, x -> x.removeJar('b')), 5, "without one jar", x -> x.pass(60));
        accepts(SHELVES, 0, "without warmings", x -> x.pass(60));
    }

    /** misses: "the sort: c for cold, e for expired, o for open" */
    private static void sortsOfMisses() {
        for (int code = 0; code < 600; code++) {
            char sort = (char) code;
            accepts(EMPTY, "ceo".indexOf(sort) >= 0 ? 0 : ARGUMENT, "misses of " + code, x -> x.misses(sort));
        }
        for (char sort : "hbdfnpCEO rl".toCharArray()) {
            refuses(BUSY, ARGUMENT, "misses of " + sort, x -> x.misses(sort));
        }
    }

    /** type: "Throws IllegalArgumentException if the character is not from 32 to 126" */
    private static void charactersFrom32To126() {
        for (int code = 0; code < 65536; code += code < 400 ? 1 : 85) {
            char character = (char) code;
            accepts(BARE, code >= 32 && code <= 126 ? 1 : ARGUMENT, "character " + code, x -> x.type(character));
        }
        for (int code : new int[] {0, 10, 31, 127, 128, 256 + 'a', 65535}) {
            refuses(BUSY, ARGUMENT, "character " + code, x -> x.type((char) code));
            refuses(FULL, ARGUMENT, "character " + code + " for a full buffer", x -> x.type((char) code));
        }
    }

    // ---- Promises: nothing there -------------------------------------------------------------

    /** "Creates a pantry without jars and shelves at minute 0." */
    private static void aNewPantry() {
        EchoPantry x = new EchoPantry();
        due("counts", "0 0 0 0", x.jarCount() + " " + x.shelfCount() + " " + x.time() + " " + x.warmingCount());
        due("heard", "0 0 0 0", x.hits() + " " + x.misses('c') + " " + x.misses('e') + " " + x.misses('o'));
        due("consistent", true, x.isConsistent());
        refuses(EMPTY, INDEX, "a character of the line", y -> y.lineAt(0));
        refuses(EMPTY, INDEX, "a shelf", y -> y.writeShelf(0));
        refuses(EMPTY, ELEMENT, "a rank", y -> y.shelfByHits(0));
        accepts(EMPTY, 1, "the buffer is empty", y -> y.type('x'));
    }

    /** victimOf, victimByScan: "Throws NoSuchElementException if the shelf has no echoes" */
    private static void noVictim() {
        refuses(SHELVES, ELEMENT, "victimOf", x -> x.victimOf(0));
        refuses(SHELVES, ELEMENT, "victimByScan", x -> x.victimByScan(0));
        Setup gone = then(BUSY, x -> {
            x.removeJar('c');
            x.removeJar('b');
            x.removeJar('a');
        });
        for (int shelf = 0; shelf < 3; shelf++) {
            int empty = shelf;
            refuses(gone, ELEMENT, "victimOf any more", x -> x.victimOf(empty));
            refuses(gone, ELEMENT, "victimByScan any more", x -> x.victimByScan(empty));
            Setup one = then(gone, x -> {
                x.addJar('z', 1);
                x.hear(empty, 'z');
            });
            accepts(one, 'z', "victimOf one, whether it is full or not", x -> x.victimOf(empty));
            accepts(one, 'z', "victimByScan one", x -> x.victimByScan(empty));
        }
    }

    /** hitShare: "Throws ArithmeticException if nothing was heard" */
    private static void nothingWasHeard() {
        refuses(EMPTY, ARITHMETIC, "hitShare of nothing", EchoPantry::hitShare);
        refuses(SHELVES, ARITHMETIC, "hitShare of shelves", EchoPantry::hitShare);
        refuses(then(EIGHT, x -> x.pass(60)), ARITHMETIC, "hitShare of warmings", EchoPantry::hitShare);
        Setup one = then(SHELVES, x -> x.hear(0, 'a'));
        accepts(one, 0f, "hitShare of a cold miss", EchoPantry::hitShare);
        refuses(then(one, EchoPantry::undo), ARITHMETIC, "hitShare after undo", EchoPantry::hitShare);
        accepts(then(one, x -> x.removeJar('a')), 0f, "hitShare without the jar", EchoPantry::hitShare);
        Setup hit = then(one, x -> x.hear(0, 'a'));
        accepts(hit, 0.5f, "hitShare of a hit", EchoPantry::hitShare);
        accepts(then(hit, x -> x.hear(0, 'b')), 1f / 3f, "hitShare in float", EchoPantry::hitShare);
        accepts(then(hit, x -> {
            x.pass(5);
            x.hear(0, 'a');
            x.pass(5);
            x.hear(0, 'a');
            x.say('a', 1);
            x.hear(0, 'a');
            x.hear(1, 'a');
            x.hear(1, 'b');
            x.hear(1, 'c');
        }), 1f / 8f, "hitShare of 1 hit, 4 cold, 2 expired, 1 open", EchoPantry::hitShare);
    }

    /** meanAge: "Throws ArithmeticException if there are no echoes" */
    private static void thereAreNoEchoes() {
        refuses(EMPTY, ARITHMETIC, "meanAge of nothing", EchoPantry::meanAge);
        refuses(SHELVES, ARITHMETIC, "meanAge of shelves", EchoPantry::meanAge);
        Setup one = then(SHELVES, x -> x.hear(2, 'a'));
        accepts(one, 0.0, "meanAge of a new echo", EchoPantry::meanAge);
        refuses(then(one, EchoPantry::undo), ARITHMETIC, "meanAge after undo", EchoPantry::meanAge);
        refuses(then(one, x -> x.removeJar('a')), ARITHMETIC, "meanAge without the jar", EchoPantry::meanAge);
        accepts(then(one, x -> x.pass(60)), 60.0, "meanAge of an expired echo", EchoPantry::meanAge);
        Setup three = then(one, x -> {
            x.pass(1);
            x.hear(0, 'a');
            x.hear(1, 'a');
        });
        accepts(three, 1.0 / 3.0, "meanAge in double", EchoPantry::meanAge);
        accepts(then(three, x -> x.pass(6)), 19.0 / 3.0, "meanAge of three", EchoPantry::meanAge);
        accepts(then(three, x -> {
            x.hear(2, 'b');
            x.hear(0, 'b');
            x.pass(2);
            x.hear(1, 'b');
        }), 11.0 / 6.0, "meanAge of two on each shelf", EchoPantry::meanAge);
    }

    /** shelfByHits: "the most hits first; shelves with as many hits are ordered by their numbers" */
    private static void ranks() {
        positions(EMPTY, 0, ELEMENT, "shelfByHits", EchoPantry::shelfByHits);
        positions(BUSY, 3, ELEMENT, "shelfByHits", EchoPantry::shelfByHits);
        positions(FULL, 4, ELEMENT, "shelfByHits", EchoPantry::shelfByHits);
        EchoPantry x = made(then(TWELVE, FOUR));
        for (int shelf = 0; shelf < 4; shelf++) {
            x.hear(shelf, 'a');
        }
        rank(x, "0123");
        x.hear(3, 'a');
        rank(x, "3012");
        x.hear(1, 'a');
        rank(x, "1302");
        x.hear(0, 'a');
        x.hear(2, 'a');
        rank(x, "0123");
        x.hear(2, 'a');
        x.hear(3, 'a');
        rank(x, "2301");
        x.hear(3, 'a');
        rank(x, "3201");
        x.removeJar('a');
        rank(x, "3201");
        x.undo();
        x.undo();
        rank(x, "2301");
    }

    private static void rank(EchoPantry x, String want) {
        StringBuilder order = new StringBuilder();
        for (int rank = 0; rank < 4; rank++) {
            order.append(x.shelfByHits(rank));
        }
        due("order by hits", want, order.toString());
    }

    /** lineAt: "Throws IndexOutOfBoundsException if there is no such character", "the line, which is empty at first" */
    private static void indicesInTheLine() {
        positions(EMPTY, 0, INDEX, "lineAt", EchoPantry::lineAt);
        positions(FEW, 0, INDEX, "lineAt", EchoPantry::lineAt);
        Setup six = then(TWELVE, x -> {
            x.addShelf(6, 1, 'r');
            x.addShelf(6, 1, 'r');
            for (char letter = 'a'; letter <= 'f'; letter++) {
                x.say(letter, 99);
                x.hear(0, letter);
                x.say(letter, 0);
            }
            x.pass(1);
        });
        accepts(six, 35, "the longest line", x -> x.writeShelf(0));
        accepts(six, "a99~! b99~! c99~! d99~! e99~! f99~!", "the longest line", x -> line(x, 0));
        Setup written = then(six, x -> x.writeShelf(0));
        positions(written, 35, INDEX, "lineAt", EchoPantry::lineAt);
        accepts(written, 'a', "its first character", x -> x.lineAt(0));
        accepts(written, '!', "its last character", x -> x.lineAt(34));
        positions(then(written, x -> x.writeShelf(1)), 0, INDEX, "lineAt", EchoPantry::lineAt);
        refuses(written, INDEX, "writeShelf leaves the line", x -> x.writeShelf(2));
    }

    /** writeShelf: "for example a42 c7~ x0~!" */
    private static void theLineOfTheExample() {
        Setup setup = x -> {
            x.addShelf(6, 5, 'o');
            x.addJar('x', 0);
            x.addJar('c', 7);
            x.addJar('a', 42);
            x.hear(0, 'x');
            x.hear(0, 'c');
            x.pass(4);
            x.hear(0, 'a');
            x.say('x', 99);
        };
        accepts(setup, "a42 c7 x0!", "the line a minute before", x -> line(x, 0));
        Setup later = then(setup, x -> x.pass(1));
        accepts(later, "a42 c7~ x0~!", "the line of the example", x -> line(x, 0));
        accepts(later, 12, "its length", x -> x.writeShelf(0));
        accepts(then(later, x -> x.removeJar('c')), "a42 x0~!", "without c", x -> line(x, 0));
        accepts(then(later, x -> x.removeJar('a')), "c7~ x0~!", "without a", x -> line(x, 0));
        accepts(then(later, x -> x.removeJar('x')), "a42 c7~", "without x", x -> line(x, 0));
    }

    /** errorPosition: "Throws NoSuchElementException if no text was malformed so far" */
    private static void noErrorPosition() {
        refuses(EMPTY, ELEMENT, "errorPosition", EchoPantry::errorPosition);
        refuses(FEW, ELEMENT, "errorPosition after right texts", EchoPantry::errorPosition);
        refuses(then(FEW, x -> execute(x, "pass 0")), ELEMENT, "errorPosition after a failure",
                EchoPantry::errorPosition);
        refuses(then(FEW, x -> type(x, "x")), ELEMENT, "errorPosition ahead of execute", EchoPantry::errorPosition);
        accepts(then(FEW, x -> answer(x, EchoPantry::execute)), 0, "errorPosition of no text",
                EchoPantry::errorPosition);
        Setup two = then(FEW, x -> {
            execute(x, "pass 1;jar");
            execute(x, "pas");
        });
        accepts(two, 3, "of the last malformed text", EchoPantry::errorPosition);
        accepts(then(two, x -> execute(x, "pass 1")), 3, "after a right text", EchoPantry::errorPosition);
        accepts(then(two, x -> execute(x, "pass 0")), 3, "after a failure", EchoPantry::errorPosition);
    }

    /** failedCommand: "Throws NoSuchElementException if no command failed so far" */
    private static void noFailedCommand() {
        refuses(EMPTY, ELEMENT, "failedCommand", EchoPantry::failedCommand);
        refuses(FEW, ELEMENT, "failedCommand after right texts", EchoPantry::failedCommand);
        refuses(then(FEW, x -> execute(x, "pass 0;x")), ELEMENT, "failedCommand after a malformed text",
                EchoPantry::failedCommand);
        refuses(then(FEW, x -> answer(x, y -> y.pass(0))), ELEMENT, "failedCommand after a refused call",
                EchoPantry::failedCommand);
        accepts(then(FEW, x -> execute(x, "pass 0")), 0, "failedCommand", EchoPantry::failedCommand);
        Setup two = then(FEW, x -> {
            execute(x, "pass 0");
            execute(x, "pass 1;say a 1;pass 0;pass 61");
        });
        accepts(two, 2, "in the last text that had one", EchoPantry::failedCommand);
        accepts(then(two, x -> execute(x, "pass 1")), 2, "after a right text", EchoPantry::failedCommand);
        accepts(then(two, x -> execute(x, "pass")), 2, "after a malformed text", EchoPantry::failedCommand);
        accepts(then(two, x -> execute(x, "pass 0")), 0, "after one more", EchoPantry::failedCommand);
    }

    // ---- Exceptions --------------------------------------------------------------------------

    /** "If several exceptions apply, the one that is documented first is thrown." */
    private static void theFirstException() {
        refuses(FULL, ARGUMENT, "addJar: letter before 12 jars", x -> x.addJar('{', 1));
        refuses(FULL, ARGUMENT, "addJar: word before 12 jars", x -> x.addJar('m', 100));
        refuses(BUSY, ARGUMENT, "addJar: word before such a jar", x -> x.addJar('a', -1));
        refuses(BUSY, ELEMENT, "say: jar before word", x -> x.say('d', 100));
        refuses(FULL, ARGUMENT, "addShelf: capacity before 4 shelves", x -> x.addShelf(0, 1, 'r'));
        refuses(FULL, ARGUMENT, "addShelf: lifetime before 4 shelves", x -> x.addShelf(1, 31, 'r'));
        refuses(FULL, ARGUMENT, "addShelf: policy before 4 shelves", x -> x.addShelf(1, 1, 'x'));
        refuses(BUSY, INDEX, "echoAt: shelf before position", x -> x.echoAt(3, -1));
        refuses(BUSY, INDEX, "hear: shelf before jar", x -> x.hear(3, 'd'));
        refuses(BUSY, INDEX, "outcomeOf: shelf before jar", x -> x.outcomeOf(-1, '{'));
        for (Map.Entry<String, EchoCall> call : callsWithAnEcho().entrySet()) {
            refuses(BUSY, INDEX, call.getKey() + ": shelf before echo", x -> call.getValue().on(x, 3, 'd'));
        }
        refuses(FULL, INDEX, "warm: shelf before the rest", x -> x.warm(4, 'm', 0));
        refuses(BUSY, INDEX, "warm: shelf before jar", x -> x.warm(3, 'd', 1));
        refuses(BUSY, INDEX, "warm: shelf before minutes", x -> x.warm(3, 'a', 51));
        refuses(FULL, INDEX, "warm: shelf before 8 warmings", x -> x.warm(-1, 'a', 1));
        refuses(FULL, ELEMENT, "warm: jar before the rest", x -> x.warm(3, 'm', 0));
        refuses(BUSY, ELEMENT, "warm: jar before minutes", x -> x.warm(0, 'd', 51));
        refuses(FULL, ELEMENT, "warm: jar before 8 warmings", x -> x.warm(0, 'm', 1));
        refuses(FULL, ARGUMENT, "warm: minutes before 8 warmings", x -> x.warm(0, 'a', 51));
        refuses(FULL, ARGUMENT, "type: character before 60 characters", x -> x.type((char) 127));
        malformed(BARE, "pass 0;x", 7);
        malformed(CROWDED, "jar m 1;", 8);
    }

    public static void main(String[] args) {
        theSetups();
        terms();
        textAndUndo();
        promises();
        System.out.println(checks + " checks, " + wrong + " wrong");
        if (wrong > 0) {
            System.exit(1);
        }
    }

    private static void terms() {
        theLastOf512Calls();
        atMostTwelveJars();
        lettersFromAToZ();
        firstAndLastLetter();
        aLetterOfOneJar();
        wordsFrom0To99();
        atMostFourShelves();
        capacitiesFrom1To6();
        lifetimesFrom1To30();
        policiesROL();
        initiallyItListens();
        oneEchoOfEachJar();
        atMostCapacityEchoes();
        theWordWhenFetched();
        theAge();
        expiredAtItsLifetime();
        closedAtFirst();
        freshEchoes();
        trueEchoes();
        stepsOverAllShelves();
        manyHits();
        aFullShelf();
        theNewEcho();
        victims();
        sayingOpensLids();
        atMostEightWarmings();
        orderOfWarmings();
        theMinuteOfAWarming();
        theShelfOfAWarming();
        aWarmingOfARemovedJar();
        warmingIsNoHearing();
        aRemovedJarHasNoEchoes();
    }

    private static void textAndUndo() {
        atMostSixtyCharacters();
        commandsAreCalls();
        lettersInTexts();
        digitsInTexts();
        firstWrongCharacter();
        endsTooEarly();
        allOrNone();
        failingCommands();
        theBufferIsEmptyAfterwards();
        theLastEightCanBeUndone();
        undoAndGoOn();
        eachModificationCanBeUndone();
        whatIsNoModification();
        readingsChangeNothing();
        whatIsNotUndone();
        snapshotsAreReplaced();
        snapshotsAreKept();
        hearingsAreRestored();
        noSnapshot();
    }

    private static void promises() {
        noSuchShelf();
        eachShelf();
        noSuchJar();
        noSuchEcho();
        anyCharacter();
        positionsOfJars();
        positionsOfEchoes();
        positionsOfWarmings();
        cancellingAllWarmings();
        minutesOfAWarming();
        minutesThatPass();
        echoesOfAllWarmings();
        sortsOfMisses();
        charactersFrom32To126();
        aNewPantry();
        noVictim();
        nothingWasHeard();
        thereAreNoEchoes();
        ranks();
        indicesInTheLine();
        theLineOfTheExample();
        noErrorPosition();
        noFailedCommand();
        theFirstException();
    }
}
